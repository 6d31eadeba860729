/-! ===== the law: its instructions (3) ===== -/
theorem dL_836 : decode code 836 = .ok (.iconst 3, 1) := by decide +kernel
theorem dL_837 : decode code 837 = .ok (.iadd, 1) := by decide +kernel
theorem dL_838 : decode code 838 = .ok (.iaload, 1) := by decide +kernel
theorem dL_839 : decode code 839 = .ok (.invokevirtual 90, 3) := by decide +kernel
theorem dL_842 : decode code 842 = .ok (.aload_n 2, 1) := by decide +kernel
theorem dL_843 : decode code 843 = .ok (.aload_n 0, 1) := by decide +kernel
theorem dL_844 : decode code 844 = .ok (.iload_n 3, 1) := by decide +kernel
theorem dL_845 : decode code 845 = .ok (.iconst 1, 1) := by decide +kernel
theorem dL_846 : decode code 846 = .ok (.iadd, 1) := by decide +kernel
theorem dL_847 : decode code 847 = .ok (.iaload, 1) := by decide +kernel
theorem dL_848 : decode code 848 = .ok (.aload_n 0, 1) := by decide +kernel
theorem dL_849 : decode code 849 = .ok (.iload_n 3, 1) := by decide +kernel
theorem dL_850 : decode code 850 = .ok (.iconst 2, 1) := by decide +kernel
theorem dL_851 : decode code 851 = .ok (.iadd, 1) := by decide +kernel
theorem dL_852 : decode code 852 = .ok (.iaload, 1) := by decide +kernel
theorem dL_853 : decode code 853 = .ok (.aload_n 0, 1) := by decide +kernel
theorem dL_854 : decode code 854 = .ok (.iload_n 3, 1) := by decide +kernel
theorem dL_855 : decode code 855 = .ok (.iconst 3, 1) := by decide +kernel
theorem dL_856 : decode code 856 = .ok (.iadd, 1) := by decide +kernel
theorem dL_857 : decode code 857 = .ok (.iaload, 1) := by decide +kernel
theorem dL_858 : decode code 858 = .ok (.invokevirtual 93, 3) := by decide +kernel
theorem dL_861 : decode code 861 = .ok (.if_icmp .eq 392, 3) := by decide +kernel
theorem dL_864 : decode code 864 = .ok (.iconst 0, 1) := by decide +kernel
theorem dL_865 : decode code 865 = .ok (.ireturn, 1) := by decide +kernel
theorem dL_866 : decode code 866 = .ok (.aload_n 1, 1) := by decide +kernel
theorem dL_867 : decode code 867 = .ok (.aload_n 0, 1) := by decide +kernel
theorem dL_868 : decode code 868 = .ok (.iload_n 3, 1) := by decide +kernel
theorem dL_869 : decode code 869 = .ok (.iconst 1, 1) := by decide +kernel
theorem dL_870 : decode code 870 = .ok (.iadd, 1) := by decide +kernel
theorem dL_871 : decode code 871 = .ok (.iaload, 1) := by decide +kernel
theorem dL_872 : decode code 872 = .ok (.invokevirtual 94, 3) := by decide +kernel
theorem dL_875 : decode code 875 = .ok (.aload_n 2, 1) := by decide +kernel
theorem dL_876 : decode code 876 = .ok (.aload_n 0, 1) := by decide +kernel
theorem dL_877 : decode code 877 = .ok (.iload_n 3, 1) := by decide +kernel
theorem dL_878 : decode code 878 = .ok (.iconst 1, 1) := by decide +kernel
theorem dL_879 : decode code 879 = .ok (.iadd, 1) := by decide +kernel
theorem dL_880 : decode code 880 = .ok (.iaload, 1) := by decide +kernel
theorem dL_881 : decode code 881 = .ok (.invokevirtual 98, 3) := by decide +kernel
theorem dL_884 : decode code 884 = .ok (.lcmp, 1) := by decide +kernel
theorem dL_885 : decode code 885 = .ok (.ifCond .eq 368, 3) := by decide +kernel
theorem dL_888 : decode code 888 = .ok (.iconst 0, 1) := by decide +kernel
theorem dL_889 : decode code 889 = .ok (.ireturn, 1) := by decide +kernel
theorem dL_890 : decode code 890 = .ok (.aload_n 1, 1) := by decide +kernel
theorem dL_891 : decode code 891 = .ok (.aload_n 0, 1) := by decide +kernel
theorem dL_892 : decode code 892 = .ok (.iload_n 3, 1) := by decide +kernel
theorem dL_893 : decode code 893 = .ok (.iconst 1, 1) := by decide +kernel
theorem dL_894 : decode code 894 = .ok (.iadd, 1) := by decide +kernel
theorem dL_895 : decode code 895 = .ok (.iaload, 1) := by decide +kernel
theorem dL_896 : decode code 896 = .ok (.aload_n 0, 1) := by decide +kernel
theorem dL_897 : decode code 897 = .ok (.iload_n 3, 1) := by decide +kernel
theorem dL_898 : decode code 898 = .ok (.iconst 2, 1) := by decide +kernel
theorem dL_899 : decode code 899 = .ok (.iadd, 1) := by decide +kernel
theorem dL_900 : decode code 900 = .ok (.iaload, 1) := by decide +kernel
theorem dL_901 : decode code 901 = .ok (.invokevirtual 99, 3) := by decide +kernel
theorem dL_904 : decode code 904 = .ok (.aload_n 2, 1) := by decide +kernel
theorem dL_905 : decode code 905 = .ok (.aload_n 0, 1) := by decide +kernel
theorem dL_906 : decode code 906 = .ok (.iload_n 3, 1) := by decide +kernel
theorem dL_907 : decode code 907 = .ok (.iconst 1, 1) := by decide +kernel
theorem dL_908 : decode code 908 = .ok (.iadd, 1) := by decide +kernel
theorem dL_909 : decode code 909 = .ok (.iaload, 1) := by decide +kernel
theorem dL_910 : decode code 910 = .ok (.aload_n 0, 1) := by decide +kernel
theorem dL_911 : decode code 911 = .ok (.iload_n 3, 1) := by decide +kernel
theorem dL_912 : decode code 912 = .ok (.iconst 2, 1) := by decide +kernel
theorem dL_913 : decode code 913 = .ok (.iadd, 1) := by decide +kernel
theorem dL_914 : decode code 914 = .ok (.iaload, 1) := by decide +kernel
theorem dL_915 : decode code 915 = .ok (.invokevirtual 102, 3) := by decide +kernel
theorem dL_918 : decode code 918 = .ok (.if_icmp .eq 335, 3) := by decide +kernel
theorem dL_921 : decode code 921 = .ok (.iconst 0, 1) := by decide +kernel
theorem dL_922 : decode code 922 = .ok (.ireturn, 1) := by decide +kernel
theorem dL_923 : decode code 923 = .ok (.aload_n 1, 1) := by decide +kernel
theorem dL_924 : decode code 924 = .ok (.aload_n 0, 1) := by decide +kernel
theorem dL_925 : decode code 925 = .ok (.iload_n 3, 1) := by decide +kernel
theorem dL_926 : decode code 926 = .ok (.iconst 1, 1) := by decide +kernel
theorem dL_927 : decode code 927 = .ok (.iadd, 1) := by decide +kernel
theorem dL_928 : decode code 928 = .ok (.iaload, 1) := by decide +kernel
theorem dL_929 : decode code 929 = .ok (.aload_n 0, 1) := by decide +kernel
theorem dL_930 : decode code 930 = .ok (.iload_n 3, 1) := by decide +kernel
theorem dL_931 : decode code 931 = .ok (.iconst 2, 1) := by decide +kernel
theorem dL_932 : decode code 932 = .ok (.iadd, 1) := by decide +kernel
theorem dL_933 : decode code 933 = .ok (.iaload, 1) := by decide +kernel
theorem dL_934 : decode code 934 = .ok (.aload_n 0, 1) := by decide +kernel
theorem dL_935 : decode code 935 = .ok (.iload_n 3, 1) := by decide +kernel
theorem dL_936 : decode code 936 = .ok (.iconst 3, 1) := by decide +kernel
theorem dL_937 : decode code 937 = .ok (.iadd, 1) := by decide +kernel
theorem dL_938 : decode code 938 = .ok (.iaload, 1) := by decide +kernel
theorem dL_939 : decode code 939 = .ok (.invokevirtual 103, 3) := by decide +kernel
theorem dL_942 : decode code 942 = .ok (.aload_n 2, 1) := by decide +kernel
theorem dL_943 : decode code 943 = .ok (.aload_n 0, 1) := by decide +kernel
theorem dL_944 : decode code 944 = .ok (.iload_n 3, 1) := by decide +kernel
theorem dL_945 : decode code 945 = .ok (.iconst 1, 1) := by decide +kernel
theorem dL_946 : decode code 946 = .ok (.iadd, 1) := by decide +kernel
theorem dL_947 : decode code 947 = .ok (.iaload, 1) := by decide +kernel
theorem dL_948 : decode code 948 = .ok (.aload_n 0, 1) := by decide +kernel
theorem dL_949 : decode code 949 = .ok (.iload_n 3, 1) := by decide +kernel
theorem dL_950 : decode code 950 = .ok (.iconst 2, 1) := by decide +kernel
theorem dL_951 : decode code 951 = .ok (.iadd, 1) := by decide +kernel
theorem dL_952 : decode code 952 = .ok (.iaload, 1) := by decide +kernel
theorem dL_953 : decode code 953 = .ok (.aload_n 0, 1) := by decide +kernel
theorem dL_954 : decode code 954 = .ok (.iload_n 3, 1) := by decide +kernel
theorem dL_955 : decode code 955 = .ok (.iconst 3, 1) := by decide +kernel
theorem dL_956 : decode code 956 = .ok (.iadd, 1) := by decide +kernel
theorem dL_957 : decode code 957 = .ok (.iaload, 1) := by decide +kernel
theorem dL_958 : decode code 958 = .ok (.invokevirtual 106, 3) := by decide +kernel
theorem dL_961 : decode code 961 = .ok (.if_icmp .eq 292, 3) := by decide +kernel
theorem dL_964 : decode code 964 = .ok (.iconst 0, 1) := by decide +kernel
theorem dL_965 : decode code 965 = .ok (.ireturn, 1) := by decide +kernel
theorem dL_966 : decode code 966 = .ok (.aload_n 1, 1) := by decide +kernel
theorem dL_967 : decode code 967 = .ok (.aload_n 0, 1) := by decide +kernel
theorem dL_968 : decode code 968 = .ok (.iload_n 3, 1) := by decide +kernel
theorem dL_969 : decode code 969 = .ok (.iconst 1, 1) := by decide +kernel
theorem dL_970 : decode code 970 = .ok (.iadd, 1) := by decide +kernel
theorem dL_971 : decode code 971 = .ok (.iaload, 1) := by decide +kernel
theorem dL_972 : decode code 972 = .ok (.aload_n 0, 1) := by decide +kernel
theorem dL_973 : decode code 973 = .ok (.iload_n 3, 1) := by decide +kernel
theorem dL_974 : decode code 974 = .ok (.iconst 2, 1) := by decide +kernel
theorem dL_975 : decode code 975 = .ok (.iadd, 1) := by decide +kernel
theorem dL_976 : decode code 976 = .ok (.iaload, 1) := by decide +kernel
theorem dL_977 : decode code 977 = .ok (.invokevirtual 107, 3) := by decide +kernel
theorem dL_980 : decode code 980 = .ok (.aload_n 2, 1) := by decide +kernel
theorem dL_981 : decode code 981 = .ok (.aload_n 0, 1) := by decide +kernel
theorem dL_982 : decode code 982 = .ok (.iload_n 3, 1) := by decide +kernel
theorem dL_983 : decode code 983 = .ok (.iconst 1, 1) := by decide +kernel
theorem dL_984 : decode code 984 = .ok (.iadd, 1) := by decide +kernel
theorem dL_985 : decode code 985 = .ok (.iaload, 1) := by decide +kernel
theorem dL_986 : decode code 986 = .ok (.aload_n 0, 1) := by decide +kernel
theorem dL_987 : decode code 987 = .ok (.iload_n 3, 1) := by decide +kernel
theorem dL_988 : decode code 988 = .ok (.iconst 2, 1) := by decide +kernel
theorem dL_989 : decode code 989 = .ok (.iadd, 1) := by decide +kernel
theorem dL_990 : decode code 990 = .ok (.iaload, 1) := by decide +kernel
theorem dL_991 : decode code 991 = .ok (.invokevirtual 110, 3) := by decide +kernel
theorem dL_994 : decode code 994 = .ok (.if_icmp .eq 259, 3) := by decide +kernel
theorem dL_997 : decode code 997 = .ok (.iconst 0, 1) := by decide +kernel
theorem dL_998 : decode code 998 = .ok (.ireturn, 1) := by decide +kernel
theorem dL_999 : decode code 999 = .ok (.aload_n 1, 1) := by decide +kernel
theorem dL_1000 : decode code 1000 = .ok (.aload_n 0, 1) := by decide +kernel
theorem dL_1001 : decode code 1001 = .ok (.iload_n 3, 1) := by decide +kernel
theorem dL_1002 : decode code 1002 = .ok (.iconst 1, 1) := by decide +kernel
theorem dL_1003 : decode code 1003 = .ok (.iadd, 1) := by decide +kernel
theorem dL_1004 : decode code 1004 = .ok (.iaload, 1) := by decide +kernel
theorem dL_1005 : decode code 1005 = .ok (.invokevirtual 111, 3) := by decide +kernel
theorem dL_1008 : decode code 1008 = .ok (.aload_n 2, 1) := by decide +kernel
theorem dL_1009 : decode code 1009 = .ok (.aload_n 0, 1) := by decide +kernel
theorem dL_1010 : decode code 1010 = .ok (.iload_n 3, 1) := by decide +kernel
theorem dL_1011 : decode code 1011 = .ok (.iconst 1, 1) := by decide +kernel
theorem dL_1012 : decode code 1012 = .ok (.iadd, 1) := by decide +kernel
theorem dL_1013 : decode code 1013 = .ok (.iaload, 1) := by decide +kernel
theorem dL_1014 : decode code 1014 = .ok (.invokevirtual 114, 3) := by decide +kernel
theorem dL_1017 : decode code 1017 = .ok (.if_icmp .eq 236, 3) := by decide +kernel
theorem dL_1020 : decode code 1020 = .ok (.iconst 0, 1) := by decide +kernel
theorem dL_1021 : decode code 1021 = .ok (.ireturn, 1) := by decide +kernel
theorem dL_1022 : decode code 1022 = .ok (.aload_n 1, 1) := by decide +kernel
theorem dL_1023 : decode code 1023 = .ok (.aload_n 0, 1) := by decide +kernel
theorem dL_1024 : decode code 1024 = .ok (.iload_n 3, 1) := by decide +kernel
theorem dL_1025 : decode code 1025 = .ok (.iconst 1, 1) := by decide +kernel
theorem dL_1026 : decode code 1026 = .ok (.iadd, 1) := by decide +kernel
theorem dL_1027 : decode code 1027 = .ok (.iaload, 1) := by decide +kernel
theorem dL_1028 : decode code 1028 = .ok (.aload_n 0, 1) := by decide +kernel
theorem dL_1029 : decode code 1029 = .ok (.iload_n 3, 1) := by decide +kernel
theorem dL_1030 : decode code 1030 = .ok (.iconst 2, 1) := by decide +kernel
theorem dL_1031 : decode code 1031 = .ok (.iadd, 1) := by decide +kernel
theorem dL_1032 : decode code 1032 = .ok (.iaload, 1) := by decide +kernel
theorem dL_1033 : decode code 1033 = .ok (.aload_n 0, 1) := by decide +kernel
theorem dL_1034 : decode code 1034 = .ok (.iload_n 3, 1) := by decide +kernel
theorem dL_1035 : decode code 1035 = .ok (.iconst 3, 1) := by decide +kernel
theorem dL_1036 : decode code 1036 = .ok (.iadd, 1) := by decide +kernel
theorem dL_1037 : decode code 1037 = .ok (.iaload, 1) := by decide +kernel
theorem dL_1038 : decode code 1038 = .ok (.aload_n 0, 1) := by decide +kernel
theorem dL_1039 : decode code 1039 = .ok (.iload_n 3, 1) := by decide +kernel
theorem dL_1040 : decode code 1040 = .ok (.iconst 4, 1) := by decide +kernel
theorem dL_1041 : decode code 1041 = .ok (.iadd, 1) := by decide +kernel
theorem dL_1042 : decode code 1042 = .ok (.iaload, 1) := by decide +kernel
theorem dL_1043 : decode code 1043 = .ok (.aload_n 0, 1) := by decide +kernel
theorem dL_1044 : decode code 1044 = .ok (.iload_n 3, 1) := by decide +kernel
theorem dL_1045 : decode code 1045 = .ok (.iconst 5, 1) := by decide +kernel
theorem dL_1046 : decode code 1046 = .ok (.iadd, 1) := by decide +kernel
theorem dL_1047 : decode code 1047 = .ok (.iaload, 1) := by decide +kernel
theorem dL_1048 : decode code 1048 = .ok (.invokevirtual 115, 3) := by decide +kernel
theorem dL_1051 : decode code 1051 = .ok (.aload_n 2, 1) := by decide +kernel
theorem dL_1052 : decode code 1052 = .ok (.aload_n 0, 1) := by decide +kernel
theorem dL_1053 : decode code 1053 = .ok (.iload_n 3, 1) := by decide +kernel
theorem dL_1054 : decode code 1054 = .ok (.iconst 1, 1) := by decide +kernel
theorem dL_1055 : decode code 1055 = .ok (.iadd, 1) := by decide +kernel
theorem dL_1056 : decode code 1056 = .ok (.iaload, 1) := by decide +kernel
theorem dL_1057 : decode code 1057 = .ok (.aload_n 0, 1) := by decide +kernel
theorem dL_1058 : decode code 1058 = .ok (.iload_n 3, 1) := by decide +kernel
theorem dL_1059 : decode code 1059 = .ok (.iconst 2, 1) := by decide +kernel
theorem dL_1060 : decode code 1060 = .ok (.iadd, 1) := by decide +kernel
theorem dL_1061 : decode code 1061 = .ok (.iaload, 1) := by decide +kernel
theorem dL_1062 : decode code 1062 = .ok (.aload_n 0, 1) := by decide +kernel
theorem dL_1063 : decode code 1063 = .ok (.iload_n 3, 1) := by decide +kernel
