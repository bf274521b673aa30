theorem dL_law_767 : decode cL_law 767 = .ok (.aload_n 0, 1) := by decide +kernel
theorem dL_law_768 : decode cL_law 768 = .ok (.iload 4, 2) := by decide +kernel
theorem dL_law_770 : decode cL_law 770 = .ok (.iconst 1, 1) := by decide +kernel
theorem dL_law_771 : decode cL_law 771 = .ok (.iadd, 1) := by decide +kernel
theorem dL_law_772 : decode cL_law 772 = .ok (.iaload, 1) := by decide +kernel
theorem dL_law_773 : decode cL_law 773 = .ok (.aload_n 0, 1) := by decide +kernel
theorem dL_law_774 : decode cL_law 774 = .ok (.iload 4, 2) := by decide +kernel
theorem dL_law_776 : decode cL_law 776 = .ok (.iconst 2, 1) := by decide +kernel
theorem dL_law_777 : decode cL_law 777 = .ok (.iadd, 1) := by decide +kernel
theorem dL_law_778 : decode cL_law 778 = .ok (.iaload, 1) := by decide +kernel
theorem dL_law_779 : decode cL_law 779 = .ok (.aload_n 0, 1) := by decide +kernel
theorem dL_law_780 : decode cL_law 780 = .ok (.iload 4, 2) := by decide +kernel
theorem dL_law_782 : decode cL_law 782 = .ok (.iconst 3, 1) := by decide +kernel
theorem dL_law_783 : decode cL_law 783 = .ok (.iadd, 1) := by decide +kernel
theorem dL_law_784 : decode cL_law 784 = .ok (.iaload, 1) := by decide +kernel
theorem dL_law_785 : decode cL_law 785 = .ok (.aload_n 0, 1) := by decide +kernel
theorem dL_law_786 : decode cL_law 786 = .ok (.iload 4, 2) := by decide +kernel
theorem dL_law_788 : decode cL_law 788 = .ok (.iconst 4, 1) := by decide +kernel
theorem dL_law_789 : decode cL_law 789 = .ok (.iadd, 1) := by decide +kernel
theorem dL_law_790 : decode cL_law 790 = .ok (.iaload, 1) := by decide +kernel
theorem dL_law_791 : decode cL_law 791 = .ok (.aload_n 3, 1) := by decide +kernel
theorem dL_law_792 : decode cL_law 792 = .ok (.invokestatic 195, 3) := by decide +kernel
theorem dL_law_795 : decode cL_law 795 = .ok (.istore 5, 2) := by decide +kernel
theorem dL_law_797 : decode cL_law 797 = .ok (.aload_n 2, 1) := by decide +kernel
theorem dL_law_798 : decode cL_law 798 = .ok (.aload_n 0, 1) := by decide +kernel
theorem dL_law_799 : decode cL_law 799 = .ok (.iload 4, 2) := by decide +kernel
theorem dL_law_801 : decode cL_law 801 = .ok (.iconst 1, 1) := by decide +kernel
theorem dL_law_802 : decode cL_law 802 = .ok (.iadd, 1) := by decide +kernel
theorem dL_law_803 : decode cL_law 803 = .ok (.iaload, 1) := by decide +kernel
theorem dL_law_804 : decode cL_law 804 = .ok (.aload_n 0, 1) := by decide +kernel
theorem dL_law_805 : decode cL_law 805 = .ok (.iload 4, 2) := by decide +kernel
theorem dL_law_807 : decode cL_law 807 = .ok (.iconst 2, 1) := by decide +kernel
theorem dL_law_808 : decode cL_law 808 = .ok (.iadd, 1) := by decide +kernel
theorem dL_law_809 : decode cL_law 809 = .ok (.iaload, 1) := by decide +kernel
theorem dL_law_810 : decode cL_law 810 = .ok (.aload_n 0, 1) := by decide +kernel
theorem dL_law_811 : decode cL_law 811 = .ok (.iload 4, 2) := by decide +kernel
theorem dL_law_813 : decode cL_law 813 = .ok (.iconst 3, 1) := by decide +kernel
theorem dL_law_814 : decode cL_law 814 = .ok (.iadd, 1) := by decide +kernel
theorem dL_law_815 : decode cL_law 815 = .ok (.iaload, 1) := by decide +kernel
theorem dL_law_816 : decode cL_law 816 = .ok (.aload_n 0, 1) := by decide +kernel
theorem dL_law_817 : decode cL_law 817 = .ok (.iload 4, 2) := by decide +kernel
theorem dL_law_819 : decode cL_law 819 = .ok (.iconst 4, 1) := by decide +kernel
theorem dL_law_820 : decode cL_law 820 = .ok (.iadd, 1) := by decide +kernel
theorem dL_law_821 : decode cL_law 821 = .ok (.iaload, 1) := by decide +kernel
theorem dL_law_822 : decode cL_law 822 = .ok (.invokevirtual 197, 3) := by decide +kernel
theorem dL_law_825 : decode cL_law 825 = .ok (.istore 6, 2) := by decide +kernel
theorem dL_law_827 : decode cL_law 827 = .ok (.aload_n 2, 1) := by decide +kernel
theorem dL_law_828 : decode cL_law 828 = .ok (.invokevirtual 170, 3) := by decide +kernel
theorem dL_law_831 : decode cL_law 831 = .ok (.iload 5, 2) := by decide +kernel
theorem dL_law_833 : decode cL_law 833 = .ok (.if_icmp .eq 5, 3) := by decide +kernel
theorem dL_law_836 : decode cL_law 836 = .ok (.iconst 0, 1) := by decide +kernel
theorem dL_law_837 : decode cL_law 837 = .ok (.ireturn, 1) := by decide +kernel
theorem dL_law_838 : decode cL_law 838 = .ok (.iload 5, 2) := by decide +kernel
theorem dL_law_840 : decode cL_law 840 = .ok (.ifCond .ne 22, 3) := by decide +kernel
theorem dL_law_843 : decode cL_law 843 = .ok (.aload_n 3, 1) := by decide +kernel
theorem dL_law_844 : decode cL_law 844 = .ok (.iconst 0, 1) := by decide +kernel
theorem dL_law_845 : decode cL_law 845 = .ok (.laload, 1) := by decide +kernel
theorem dL_law_846 : decode cL_law 846 = .ok (.iload 6, 2) := by decide +kernel
theorem dL_law_848 : decode cL_law 848 = .ok (.ifCond .eq 7, 3) := by decide +kernel
theorem dL_law_851 : decode cL_law 851 = .ok (.lconst 1, 1) := by decide +kernel
theorem dL_law_852 : decode cL_law 852 = .ok (.goto 4, 3) := by decide +kernel
theorem dL_law_855 : decode cL_law 855 = .ok (.lconst 0, 1) := by decide +kernel
theorem dL_law_856 : decode cL_law 856 = .ok (.lcmp, 1) := by decide +kernel
theorem dL_law_857 : decode cL_law 857 = .ok (.ifCond .eq 5, 3) := by decide +kernel
theorem dL_law_860 : decode cL_law 860 = .ok (.iconst 0, 1) := by decide +kernel
theorem dL_law_861 : decode cL_law 861 = .ok (.ireturn, 1) := by decide +kernel
theorem dL_law_862 : decode cL_law 862 = .ok (.goto 2688, 3) := by decide +kernel
theorem dL_law_865 : decode cL_law 865 = .ok (.aload_n 1, 1) := by decide +kernel
theorem dL_law_866 : decode cL_law 866 = .ok (.aload_n 0, 1) := by decide +kernel
theorem dL_law_867 : decode cL_law 867 = .ok (.iload 4, 2) := by decide +kernel
theorem dL_law_869 : decode cL_law 869 = .ok (.iconst 1, 1) := by decide +kernel
theorem dL_law_870 : decode cL_law 870 = .ok (.iadd, 1) := by decide +kernel
theorem dL_law_871 : decode cL_law 871 = .ok (.iaload, 1) := by decide +kernel
theorem dL_law_872 : decode cL_law 872 = .ok (.aload_n 0, 1) := by decide +kernel
theorem dL_law_873 : decode cL_law 873 = .ok (.iload 4, 2) := by decide +kernel
theorem dL_law_875 : decode cL_law 875 = .ok (.iconst 2, 1) := by decide +kernel
theorem dL_law_876 : decode cL_law 876 = .ok (.iadd, 1) := by decide +kernel
theorem dL_law_877 : decode cL_law 877 = .ok (.iaload, 1) := by decide +kernel
theorem dL_law_878 : decode cL_law 878 = .ok (.aload_n 0, 1) := by decide +kernel
theorem dL_law_879 : decode cL_law 879 = .ok (.iload 4, 2) := by decide +kernel
theorem dL_law_881 : decode cL_law 881 = .ok (.iconst 3, 1) := by decide +kernel
theorem dL_law_882 : decode cL_law 882 = .ok (.iadd, 1) := by decide +kernel
theorem dL_law_883 : decode cL_law 883 = .ok (.iaload, 1) := by decide +kernel
theorem dL_law_884 : decode cL_law 884 = .ok (.aload_n 3, 1) := by decide +kernel
theorem dL_law_885 : decode cL_law 885 = .ok (.invokestatic 198, 3) := by decide +kernel
theorem dL_law_888 : decode cL_law 888 = .ok (.istore 5, 2) := by decide +kernel
theorem dL_law_890 : decode cL_law 890 = .ok (.aload_n 2, 1) := by decide +kernel
theorem dL_law_891 : decode cL_law 891 = .ok (.aload_n 0, 1) := by decide +kernel
theorem dL_law_892 : decode cL_law 892 = .ok (.iload 4, 2) := by decide +kernel
theorem dL_law_894 : decode cL_law 894 = .ok (.iconst 1, 1) := by decide +kernel
theorem dL_law_895 : decode cL_law 895 = .ok (.iadd, 1) := by decide +kernel
theorem dL_law_896 : decode cL_law 896 = .ok (.iaload, 1) := by decide +kernel
theorem dL_law_897 : decode cL_law 897 = .ok (.aload_n 0, 1) := by decide +kernel
theorem dL_law_898 : decode cL_law 898 = .ok (.iload 4, 2) := by decide +kernel
theorem dL_law_900 : decode cL_law 900 = .ok (.iconst 2, 1) := by decide +kernel
theorem dL_law_901 : decode cL_law 901 = .ok (.iadd, 1) := by decide +kernel
theorem dL_law_902 : decode cL_law 902 = .ok (.iaload, 1) := by decide +kernel
theorem dL_law_903 : decode cL_law 903 = .ok (.aload_n 0, 1) := by decide +kernel
theorem dL_law_904 : decode cL_law 904 = .ok (.iload 4, 2) := by decide +kernel
theorem dL_law_906 : decode cL_law 906 = .ok (.iconst 3, 1) := by decide +kernel
theorem dL_law_907 : decode cL_law 907 = .ok (.iadd, 1) := by decide +kernel
theorem dL_law_908 : decode cL_law 908 = .ok (.iaload, 1) := by decide +kernel
theorem dL_law_909 : decode cL_law 909 = .ok (.invokevirtual 201, 3) := by decide +kernel
theorem dL_law_912 : decode cL_law 912 = .ok (.istore 6, 2) := by decide +kernel
theorem dL_law_914 : decode cL_law 914 = .ok (.aload_n 2, 1) := by decide +kernel
theorem dL_law_915 : decode cL_law 915 = .ok (.invokevirtual 170, 3) := by decide +kernel
theorem dL_law_918 : decode cL_law 918 = .ok (.iload 5, 2) := by decide +kernel
theorem dL_law_920 : decode cL_law 920 = .ok (.if_icmp .eq 5, 3) := by decide +kernel
theorem dL_law_923 : decode cL_law 923 = .ok (.iconst 0, 1) := by decide +kernel
theorem dL_law_924 : decode cL_law 924 = .ok (.ireturn, 1) := by decide +kernel
theorem dL_law_925 : decode cL_law 925 = .ok (.iload 5, 2) := by decide +kernel
theorem dL_law_927 : decode cL_law 927 = .ok (.ifCond .ne 15, 3) := by decide +kernel
theorem dL_law_930 : decode cL_law 930 = .ok (.aload_n 3, 1) := by decide +kernel
theorem dL_law_931 : decode cL_law 931 = .ok (.iconst 0, 1) := by decide +kernel
theorem dL_law_932 : decode cL_law 932 = .ok (.laload, 1) := by decide +kernel
theorem dL_law_933 : decode cL_law 933 = .ok (.iload 6, 2) := by decide +kernel
theorem dL_law_935 : decode cL_law 935 = .ok (.i2l, 1) := by decide +kernel
theorem dL_law_936 : decode cL_law 936 = .ok (.lcmp, 1) := by decide +kernel
theorem dL_law_937 : decode cL_law 937 = .ok (.ifCond .eq 5, 3) := by decide +kernel
theorem dL_law_940 : decode cL_law 940 = .ok (.iconst 0, 1) := by decide +kernel
theorem dL_law_941 : decode cL_law 941 = .ok (.ireturn, 1) := by decide +kernel
theorem dL_law_942 : decode cL_law 942 = .ok (.goto 2608, 3) := by decide +kernel
theorem dL_law_945 : decode cL_law 945 = .ok (.aload_n 1, 1) := by decide +kernel
theorem dL_law_946 : decode cL_law 946 = .ok (.aload_n 0, 1) := by decide +kernel
theorem dL_law_947 : decode cL_law 947 = .ok (.iload 4, 2) := by decide +kernel
theorem dL_law_949 : decode cL_law 949 = .ok (.iconst 1, 1) := by decide +kernel
theorem dL_law_950 : decode cL_law 950 = .ok (.iadd, 1) := by decide +kernel
theorem dL_law_951 : decode cL_law 951 = .ok (.iaload, 1) := by decide +kernel
theorem dL_law_952 : decode cL_law 952 = .ok (.aload_n 0, 1) := by decide +kernel
theorem dL_law_953 : decode cL_law 953 = .ok (.iload 4, 2) := by decide +kernel
theorem dL_law_955 : decode cL_law 955 = .ok (.iconst 2, 1) := by decide +kernel
theorem dL_law_956 : decode cL_law 956 = .ok (.iadd, 1) := by decide +kernel
theorem dL_law_957 : decode cL_law 957 = .ok (.iaload, 1) := by decide +kernel
theorem dL_law_958 : decode cL_law 958 = .ok (.aload_n 0, 1) := by decide +kernel
theorem dL_law_959 : decode cL_law 959 = .ok (.iload 4, 2) := by decide +kernel
theorem dL_law_961 : decode cL_law 961 = .ok (.iconst 3, 1) := by decide +kernel
theorem dL_law_962 : decode cL_law 962 = .ok (.iadd, 1) := by decide +kernel
theorem dL_law_963 : decode cL_law 963 = .ok (.iaload, 1) := by decide +kernel
theorem dL_law_964 : decode cL_law 964 = .ok (.aload_n 3, 1) := by decide +kernel
theorem dL_law_965 : decode cL_law 965 = .ok (.invokestatic 202, 3) := by decide +kernel
theorem dL_law_968 : decode cL_law 968 = .ok (.istore 5, 2) := by decide +kernel
theorem dL_law_970 : decode cL_law 970 = .ok (.aload_n 2, 1) := by decide +kernel
theorem dL_law_971 : decode cL_law 971 = .ok (.aload_n 0, 1) := by decide +kernel
theorem dL_law_972 : decode cL_law 972 = .ok (.iload 4, 2) := by decide +kernel
theorem dL_law_974 : decode cL_law 974 = .ok (.iconst 1, 1) := by decide +kernel
theorem dL_law_975 : decode cL_law 975 = .ok (.iadd, 1) := by decide +kernel
theorem dL_law_976 : decode cL_law 976 = .ok (.iaload, 1) := by decide +kernel
theorem dL_law_977 : decode cL_law 977 = .ok (.aload_n 0, 1) := by decide +kernel
theorem dL_law_978 : decode cL_law 978 = .ok (.iload 4, 2) := by decide +kernel
theorem dL_law_980 : decode cL_law 980 = .ok (.iconst 2, 1) := by decide +kernel
theorem dL_law_981 : decode cL_law 981 = .ok (.iadd, 1) := by decide +kernel
theorem dL_law_982 : decode cL_law 982 = .ok (.iaload, 1) := by decide +kernel
theorem dL_law_983 : decode cL_law 983 = .ok (.aload_n 0, 1) := by decide +kernel
theorem dL_law_984 : decode cL_law 984 = .ok (.iload 4, 2) := by decide +kernel
theorem dL_law_986 : decode cL_law 986 = .ok (.iconst 3, 1) := by decide +kernel
theorem dL_law_987 : decode cL_law 987 = .ok (.iadd, 1) := by decide +kernel
theorem dL_law_988 : decode cL_law 988 = .ok (.iaload, 1) := by decide +kernel
theorem dL_law_989 : decode cL_law 989 = .ok (.invokevirtual 204, 3) := by decide +kernel
theorem dL_law_992 : decode cL_law 992 = .ok (.istore 6, 2) := by decide +kernel
theorem dL_law_994 : decode cL_law 994 = .ok (.aload_n 2, 1) := by decide +kernel
theorem dL_law_995 : decode cL_law 995 = .ok (.invokevirtual 170, 3) := by decide +kernel
theorem dL_law_998 : decode cL_law 998 = .ok (.iload 5, 2) := by decide +kernel
theorem dL_law_1000 : decode cL_law 1000 = .ok (.if_icmp .eq 5, 3) := by decide +kernel
theorem dL_law_1003 : decode cL_law 1003 = .ok (.iconst 0, 1) := by decide +kernel
theorem dL_law_1004 : decode cL_law 1004 = .ok (.ireturn, 1) := by decide +kernel
theorem dL_law_1005 : decode cL_law 1005 = .ok (.iload 5, 2) := by decide +kernel
theorem dL_law_1007 : decode cL_law 1007 = .ok (.ifCond .ne 15, 3) := by decide +kernel
theorem dL_law_1010 : decode cL_law 1010 = .ok (.aload_n 3, 1) := by decide +kernel
theorem dL_law_1011 : decode cL_law 1011 = .ok (.iconst 0, 1) := by decide +kernel
theorem dL_law_1012 : decode cL_law 1012 = .ok (.laload, 1) := by decide +kernel
theorem dL_law_1013 : decode cL_law 1013 = .ok (.iload 6, 2) := by decide +kernel
theorem dL_law_1015 : decode cL_law 1015 = .ok (.i2l, 1) := by decide +kernel
theorem dL_law_1016 : decode cL_law 1016 = .ok (.lcmp, 1) := by decide +kernel
theorem dL_law_1017 : decode cL_law 1017 = .ok (.ifCond .eq 5, 3) := by decide +kernel
theorem dL_law_1020 : decode cL_law 1020 = .ok (.iconst 0, 1) := by decide +kernel
theorem dL_law_1021 : decode cL_law 1021 = .ok (.ireturn, 1) := by decide +kernel
theorem dL_law_1022 : decode cL_law 1022 = .ok (.goto 2528, 3) := by decide +kernel
theorem dL_law_1025 : decode cL_law 1025 = .ok (.aload_n 1, 1) := by decide +kernel
theorem dL_law_1026 : decode cL_law 1026 = .ok (.aload_n 0, 1) := by decide +kernel
theorem dL_law_1027 : decode cL_law 1027 = .ok (.iload 4, 2) := by decide +kernel
theorem dL_law_1029 : decode cL_law 1029 = .ok (.iconst 1, 1) := by decide +kernel
theorem dL_law_1030 : decode cL_law 1030 = .ok (.iadd, 1) := by decide +kernel
theorem dL_law_1031 : decode cL_law 1031 = .ok (.iaload, 1) := by decide +kernel
theorem dL_law_1032 : decode cL_law 1032 = .ok (.aload_n 0, 1) := by decide +kernel
theorem dL_law_1033 : decode cL_law 1033 = .ok (.iload 4, 2) := by decide +kernel
theorem dL_law_1035 : decode cL_law 1035 = .ok (.iconst 2, 1) := by decide +kernel
theorem dL_law_1036 : decode cL_law 1036 = .ok (.iadd, 1) := by decide +kernel
theorem dL_law_1037 : decode cL_law 1037 = .ok (.iaload, 1) := by decide +kernel
theorem dL_law_1038 : decode cL_law 1038 = .ok (.aload_n 0, 1) := by decide +kernel
theorem dL_law_1039 : decode cL_law 1039 = .ok (.iload 4, 2) := by decide +kernel
theorem dL_law_1041 : decode cL_law 1041 = .ok (.iconst 3, 1) := by decide +kernel
theorem dL_law_1042 : decode cL_law 1042 = .ok (.iadd, 1) := by decide +kernel
theorem dL_law_1043 : decode cL_law 1043 = .ok (.iaload, 1) := by decide +kernel
theorem dL_law_1044 : decode cL_law 1044 = .ok (.aload_n 3, 1) := by decide +kernel
theorem dL_law_1045 : decode cL_law 1045 = .ok (.invokestatic 205, 3) := by decide +kernel
theorem dL_law_1048 : decode cL_law 1048 = .ok (.istore 5, 2) := by decide +kernel
theorem dL_law_1050 : decode cL_law 1050 = .ok (.aload_n 2, 1) := by decide +kernel
theorem dL_law_1051 : decode cL_law 1051 = .ok (.aload_n 0, 1) := by decide +kernel
theorem dL_law_1052 : decode cL_law 1052 = .ok (.iload 4, 2) := by decide +kernel
theorem dL_law_1054 : decode cL_law 1054 = .ok (.iconst 1, 1) := by decide +kernel
theorem dL_law_1055 : decode cL_law 1055 = .ok (.iadd, 1) := by decide +kernel
theorem dL_law_1056 : decode cL_law 1056 = .ok (.iaload, 1) := by decide +kernel
theorem dL_law_1057 : decode cL_law 1057 = .ok (.aload_n 0, 1) := by decide +kernel
theorem dL_law_1058 : decode cL_law 1058 = .ok (.iload 4, 2) := by decide +kernel
theorem dL_law_1060 : decode cL_law 1060 = .ok (.iconst 2, 1) := by decide +kernel
theorem dL_law_1061 : decode cL_law 1061 = .ok (.iadd, 1) := by decide +kernel
theorem dL_law_1062 : decode cL_law 1062 = .ok (.iaload, 1) := by decide +kernel
theorem dL_law_1063 : decode cL_law 1063 = .ok (.aload_n 0, 1) := by decide +kernel
theorem dL_law_1064 : decode cL_law 1064 = .ok (.iload 4, 2) := by decide +kernel
theorem dL_law_1066 : decode cL_law 1066 = .ok (.iconst 3, 1) := by decide +kernel
theorem dL_law_1067 : decode cL_law 1067 = .ok (.iadd, 1) := by decide +kernel
theorem dL_law_1068 : decode cL_law 1068 = .ok (.iaload, 1) := by decide +kernel
theorem dL_law_1069 : decode cL_law 1069 = .ok (.invokevirtual 207, 3) := by decide +kernel
theorem dL_law_1072 : decode cL_law 1072 = .ok (.istore 6, 2) := by decide +kernel
theorem dL_law_1074 : decode cL_law 1074 = .ok (.aload_n 2, 1) := by decide +kernel
theorem dL_law_1075 : decode cL_law 1075 = .ok (.invokevirtual 170, 3) := by decide +kernel
theorem dL_law_1078 : decode cL_law 1078 = .ok (.iload 5, 2) := by decide +kernel
theorem dL_law_1080 : decode cL_law 1080 = .ok (.if_icmp .eq 5, 3) := by decide +kernel
theorem dL_law_1083 : decode cL_law 1083 = .ok (.iconst 0, 1) := by decide +kernel
theorem dL_law_1084 : decode cL_law 1084 = .ok (.ireturn, 1) := by decide +kernel
theorem dL_law_1085 : decode cL_law 1085 = .ok (.iload 5, 2) := by decide +kernel
theorem dL_law_1087 : decode cL_law 1087 = .ok (.ifCond .ne 15, 3) := by decide +kernel
theorem dL_law_1090 : decode cL_law 1090 = .ok (.aload_n 3, 1) := by decide +kernel
theorem dL_law_1091 : decode cL_law 1091 = .ok (.iconst 0, 1) := by decide +kernel
theorem dL_law_1092 : decode cL_law 1092 = .ok (.laload, 1) := by decide +kernel
theorem dL_law_1093 : decode cL_law 1093 = .ok (.iload 6, 2) := by decide +kernel
theorem dL_law_1095 : decode cL_law 1095 = .ok (.i2l, 1) := by decide +kernel
theorem dL_law_1096 : decode cL_law 1096 = .ok (.lcmp, 1) := by decide +kernel
theorem dL_law_1097 : decode cL_law 1097 = .ok (.ifCond .eq 5, 3) := by decide +kernel
theorem dL_law_1100 : decode cL_law 1100 = .ok (.iconst 0, 1) := by decide +kernel
theorem dL_law_1101 : decode cL_law 1101 = .ok (.ireturn, 1) := by decide +kernel
theorem dL_law_1102 : decode cL_law 1102 = .ok (.goto 2448, 3) := by decide +kernel
theorem dL_law_1105 : decode cL_law 1105 = .ok (.aload_n 1, 1) := by decide +kernel
theorem dL_law_1106 : decode cL_law 1106 = .ok (.aload_n 0, 1) := by decide +kernel
theorem dL_law_1107 : decode cL_law 1107 = .ok (.iload 4, 2) := by decide +kernel
theorem dL_law_1109 : decode cL_law 1109 = .ok (.iconst 1, 1) := by decide +kernel
theorem dL_law_1110 : decode cL_law 1110 = .ok (.iadd, 1) := by decide +kernel
theorem dL_law_1111 : decode cL_law 1111 = .ok (.iaload, 1) := by decide +kernel
theorem dL_law_1112 : decode cL_law 1112 = .ok (.aload_n 3, 1) := by decide +kernel
theorem dL_law_1113 : decode cL_law 1113 = .ok (.invokestatic 208, 3) := by decide +kernel
theorem dL_law_1116 : decode cL_law 1116 = .ok (.istore 5, 2) := by decide +kernel
theorem dL_law_1118 : decode cL_law 1118 = .ok (.aload_n 2, 1) := by decide +kernel
theorem dL_law_1119 : decode cL_law 1119 = .ok (.aload_n 0, 1) := by decide +kernel
theorem dL_law_1120 : decode cL_law 1120 = .ok (.iload 4, 2) := by decide +kernel
theorem dL_law_1122 : decode cL_law 1122 = .ok (.iconst 1, 1) := by decide +kernel
theorem dL_law_1123 : decode cL_law 1123 = .ok (.iadd, 1) := by decide +kernel
theorem dL_law_1124 : decode cL_law 1124 = .ok (.iaload, 1) := by decide +kernel
theorem dL_law_1125 : decode cL_law 1125 = .ok (.invokevirtual 210, 3) := by decide +kernel
theorem dL_law_1128 : decode cL_law 1128 = .ok (.istore 6, 2) := by decide +kernel
theorem dL_law_1130 : decode cL_law 1130 = .ok (.aload_n 2, 1) := by decide +kernel
theorem dL_law_1131 : decode cL_law 1131 = .ok (.invokevirtual 170, 3) := by decide +kernel
theorem dL_law_1134 : decode cL_law 1134 = .ok (.iload 5, 2) := by decide +kernel
theorem dL_law_1136 : decode cL_law 1136 = .ok (.if_icmp .eq 5, 3) := by decide +kernel
theorem dL_law_1139 : decode cL_law 1139 = .ok (.iconst 0, 1) := by decide +kernel
theorem dL_law_1140 : decode cL_law 1140 = .ok (.ireturn, 1) := by decide +kernel
theorem dL_law_1141 : decode cL_law 1141 = .ok (.iload 5, 2) := by decide +kernel
theorem dL_law_1143 : decode cL_law 1143 = .ok (.ifCond .ne 15, 3) := by decide +kernel
theorem dL_law_1146 : decode cL_law 1146 = .ok (.aload_n 3, 1) := by decide +kernel
theorem dL_law_1147 : decode cL_law 1147 = .ok (.iconst 0, 1) := by decide +kernel
theorem dL_law_1148 : decode cL_law 1148 = .ok (.laload, 1) := by decide +kernel
theorem dL_law_1149 : decode cL_law 1149 = .ok (.iload 6, 2) := by decide +kernel
theorem dL_law_1151 : decode cL_law 1151 = .ok (.i2l, 1) := by decide +kernel
theorem dL_law_1152 : decode cL_law 1152 = .ok (.lcmp, 1) := by decide +kernel
theorem dL_law_1153 : decode cL_law 1153 = .ok (.ifCond .eq 5, 3) := by decide +kernel
theorem dL_law_1156 : decode cL_law 1156 = .ok (.iconst 0, 1) := by decide +kernel
theorem dL_law_1157 : decode cL_law 1157 = .ok (.ireturn, 1) := by decide +kernel
theorem dL_law_1158 : decode cL_law 1158 = .ok (.goto 2392, 3) := by decide +kernel
theorem dL_law_1161 : decode cL_law 1161 = .ok (.aload_n 1, 1) := by decide +kernel
theorem dL_law_1162 : decode cL_law 1162 = .ok (.aload_n 0, 1) := by decide +kernel
theorem dL_law_1163 : decode cL_law 1163 = .ok (.iload 4, 2) := by decide +kernel
theorem dL_law_1165 : decode cL_law 1165 = .ok (.iconst 1, 1) := by decide +kernel
theorem dL_law_1166 : decode cL_law 1166 = .ok (.iadd, 1) := by decide +kernel
theorem dL_law_1167 : decode cL_law 1167 = .ok (.iaload, 1) := by decide +kernel
theorem dL_law_1168 : decode cL_law 1168 = .ok (.aload_n 3, 1) := by decide +kernel
theorem dL_law_1169 : decode cL_law 1169 = .ok (.invokestatic 211, 3) := by decide +kernel
theorem dL_law_1172 : decode cL_law 1172 = .ok (.istore 5, 2) := by decide +kernel
theorem dL_law_1174 : decode cL_law 1174 = .ok (.aload_n 2, 1) := by decide +kernel
theorem dL_law_1175 : decode cL_law 1175 = .ok (.aload_n 0, 1) := by decide +kernel
theorem dL_law_1176 : decode cL_law 1176 = .ok (.iload 4, 2) := by decide +kernel
theorem dL_law_1178 : decode cL_law 1178 = .ok (.iconst 1, 1) := by decide +kernel
theorem dL_law_1179 : decode cL_law 1179 = .ok (.iadd, 1) := by decide +kernel
theorem dL_law_1180 : decode cL_law 1180 = .ok (.iaload, 1) := by decide +kernel
theorem dL_law_1181 : decode cL_law 1181 = .ok (.invokevirtual 213, 3) := by decide +kernel
theorem dL_law_1184 : decode cL_law 1184 = .ok (.istore 6, 2) := by decide +kernel
theorem dL_law_1186 : decode cL_law 1186 = .ok (.aload_n 2, 1) := by decide +kernel
theorem dL_law_1187 : decode cL_law 1187 = .ok (.invokevirtual 170, 3) := by decide +kernel
theorem dL_law_1190 : decode cL_law 1190 = .ok (.iload 5, 2) := by decide +kernel
theorem dL_law_1192 : decode cL_law 1192 = .ok (.if_icmp .eq 5, 3) := by decide +kernel
theorem dL_law_1195 : decode cL_law 1195 = .ok (.iconst 0, 1) := by decide +kernel
theorem dL_law_1196 : decode cL_law 1196 = .ok (.ireturn, 1) := by decide +kernel
theorem dL_law_1197 : decode cL_law 1197 = .ok (.iload 5, 2) := by decide +kernel
theorem dL_law_1199 : decode cL_law 1199 = .ok (.ifCond .ne 15, 3) := by decide +kernel
theorem dL_law_1202 : decode cL_law 1202 = .ok (.aload_n 3, 1) := by decide +kernel
theorem dL_law_1203 : decode cL_law 1203 = .ok (.iconst 0, 1) := by decide +kernel
theorem dL_law_1204 : decode cL_law 1204 = .ok (.laload, 1) := by decide +kernel
theorem dL_law_1205 : decode cL_law 1205 = .ok (.iload 6, 2) := by decide +kernel
theorem dL_law_1207 : decode cL_law 1207 = .ok (.i2l, 1) := by decide +kernel
theorem dL_law_1208 : decode cL_law 1208 = .ok (.lcmp, 1) := by decide +kernel
theorem dL_law_1209 : decode cL_law 1209 = .ok (.ifCond .eq 5, 3) := by decide +kernel
theorem dL_law_1212 : decode cL_law 1212 = .ok (.iconst 0, 1) := by decide +kernel
theorem dL_law_1213 : decode cL_law 1213 = .ok (.ireturn, 1) := by decide +kernel
theorem dL_law_1214 : decode cL_law 1214 = .ok (.goto 2336, 3) := by decide +kernel
theorem dL_law_1217 : decode cL_law 1217 = .ok (.aload_n 1, 1) := by decide +kernel
theorem dL_law_1218 : decode cL_law 1218 = .ok (.aload_n 0, 1) := by decide +kernel
theorem dL_law_1219 : decode cL_law 1219 = .ok (.iload 4, 2) := by decide +kernel
theorem dL_law_1221 : decode cL_law 1221 = .ok (.iconst 1, 1) := by decide +kernel
theorem dL_law_1222 : decode cL_law 1222 = .ok (.iadd, 1) := by decide +kernel
theorem dL_law_1223 : decode cL_law 1223 = .ok (.iaload, 1) := by decide +kernel
theorem dL_law_1224 : decode cL_law 1224 = .ok (.aload_n 0, 1) := by decide +kernel
theorem dL_law_1225 : decode cL_law 1225 = .ok (.iload 4, 2) := by decide +kernel
theorem dL_law_1227 : decode cL_law 1227 = .ok (.iconst 2, 1) := by decide +kernel
theorem dL_law_1228 : decode cL_law 1228 = .ok (.iadd, 1) := by decide +kernel
theorem dL_law_1229 : decode cL_law 1229 = .ok (.iaload, 1) := by decide +kernel
theorem dL_law_1230 : decode cL_law 1230 = .ok (.aload_n 0, 1) := by decide +kernel
theorem dL_law_1231 : decode cL_law 1231 = .ok (.iload 4, 2) := by decide +kernel
theorem dL_law_1233 : decode cL_law 1233 = .ok (.iconst 3, 1) := by decide +kernel
theorem dL_law_1234 : decode cL_law 1234 = .ok (.iadd, 1) := by decide +kernel
theorem dL_law_1235 : decode cL_law 1235 = .ok (.iaload, 1) := by decide +kernel
theorem dL_law_1236 : decode cL_law 1236 = .ok (.aload_n 3, 1) := by decide +kernel
theorem dL_law_1237 : decode cL_law 1237 = .ok (.invokestatic 214, 3) := by decide +kernel
theorem dL_law_1240 : decode cL_law 1240 = .ok (.istore 5, 2) := by decide +kernel
theorem dL_law_1242 : decode cL_law 1242 = .ok (.aload_n 2, 1) := by decide +kernel
theorem dL_law_1243 : decode cL_law 1243 = .ok (.aload_n 0, 1) := by decide +kernel
theorem dL_law_1244 : decode cL_law 1244 = .ok (.iload 4, 2) := by decide +kernel
theorem dL_law_1246 : decode cL_law 1246 = .ok (.iconst 1, 1) := by decide +kernel
theorem dL_law_1247 : decode cL_law 1247 = .ok (.iadd, 1) := by decide +kernel
theorem dL_law_1248 : decode cL_law 1248 = .ok (.iaload, 1) := by decide +kernel
theorem dL_law_1249 : decode cL_law 1249 = .ok (.aload_n 0, 1) := by decide +kernel
theorem dL_law_1250 : decode cL_law 1250 = .ok (.iload 4, 2) := by decide +kernel
theorem dL_law_1252 : decode cL_law 1252 = .ok (.iconst 2, 1) := by decide +kernel
theorem dL_law_1253 : decode cL_law 1253 = .ok (.iadd, 1) := by decide +kernel
theorem dL_law_1254 : decode cL_law 1254 = .ok (.iaload, 1) := by decide +kernel
theorem dL_law_1255 : decode cL_law 1255 = .ok (.aload_n 0, 1) := by decide +kernel
theorem dL_law_1256 : decode cL_law 1256 = .ok (.iload 4, 2) := by decide +kernel
theorem dL_law_1258 : decode cL_law 1258 = .ok (.iconst 3, 1) := by decide +kernel
theorem dL_law_1259 : decode cL_law 1259 = .ok (.iadd, 1) := by decide +kernel
theorem dL_law_1260 : decode cL_law 1260 = .ok (.iaload, 1) := by decide +kernel
theorem dL_law_1261 : decode cL_law 1261 = .ok (.invokevirtual 216, 3) := by decide +kernel
theorem dL_law_1264 : decode cL_law 1264 = .ok (.istore 6, 2) := by decide +kernel
theorem dL_law_1266 : decode cL_law 1266 = .ok (.aload_n 2, 1) := by decide +kernel
theorem dL_law_1267 : decode cL_law 1267 = .ok (.invokevirtual 170, 3) := by decide +kernel
theorem dL_law_1270 : decode cL_law 1270 = .ok (.iload 5, 2) := by decide +kernel
theorem dL_law_1272 : decode cL_law 1272 = .ok (.if_icmp .eq 5, 3) := by decide +kernel
theorem dL_law_1275 : decode cL_law 1275 = .ok (.iconst 0, 1) := by decide +kernel
theorem dL_law_1276 : decode cL_law 1276 = .ok (.ireturn, 1) := by decide +kernel
theorem dL_law_1277 : decode cL_law 1277 = .ok (.iload 5, 2) := by decide +kernel
theorem dL_law_1279 : decode cL_law 1279 = .ok (.ifCond .ne 15, 3) := by decide +kernel
theorem dL_law_1282 : decode cL_law 1282 = .ok (.aload_n 3, 1) := by decide +kernel
theorem dL_law_1283 : decode cL_law 1283 = .ok (.iconst 0, 1) := by decide +kernel
theorem dL_law_1284 : decode cL_law 1284 = .ok (.laload, 1) := by decide +kernel
theorem dL_law_1285 : decode cL_law 1285 = .ok (.iload 6, 2) := by decide +kernel
theorem dL_law_1287 : decode cL_law 1287 = .ok (.i2l, 1) := by decide +kernel
theorem dL_law_1288 : decode cL_law 1288 = .ok (.lcmp, 1) := by decide +kernel
theorem dL_law_1289 : decode cL_law 1289 = .ok (.ifCond .eq 5, 3) := by decide +kernel
theorem dL_law_1292 : decode cL_law 1292 = .ok (.iconst 0, 1) := by decide +kernel
theorem dL_law_1293 : decode cL_law 1293 = .ok (.ireturn, 1) := by decide +kernel
theorem dL_law_1294 : decode cL_law 1294 = .ok (.goto 2256, 3) := by decide +kernel
theorem dL_law_1297 : decode cL_law 1297 = .ok (.aload_n 1, 1) := by decide +kernel
theorem dL_law_1298 : decode cL_law 1298 = .ok (.aload_n 0, 1) := by decide +kernel
theorem dL_law_1299 : decode cL_law 1299 = .ok (.iload 4, 2) := by decide +kernel
theorem dL_law_1301 : decode cL_law 1301 = .ok (.iconst 1, 1) := by decide +kernel
theorem dL_law_1302 : decode cL_law 1302 = .ok (.iadd, 1) := by decide +kernel
theorem dL_law_1303 : decode cL_law 1303 = .ok (.iaload, 1) := by decide +kernel
theorem dL_law_1304 : decode cL_law 1304 = .ok (.aload_n 3, 1) := by decide +kernel
theorem dL_law_1305 : decode cL_law 1305 = .ok (.invokestatic 217, 3) := by decide +kernel
theorem dL_law_1308 : decode cL_law 1308 = .ok (.istore 5, 2) := by decide +kernel
theorem dL_law_1310 : decode cL_law 1310 = .ok (.aload_n 2, 1) := by decide +kernel
theorem dL_law_1311 : decode cL_law 1311 = .ok (.aload_n 0, 1) := by decide +kernel
theorem dL_law_1312 : decode cL_law 1312 = .ok (.iload 4, 2) := by decide +kernel
theorem dL_law_1314 : decode cL_law 1314 = .ok (.iconst 1, 1) := by decide +kernel
theorem dL_law_1315 : decode cL_law 1315 = .ok (.iadd, 1) := by decide +kernel
theorem dL_law_1316 : decode cL_law 1316 = .ok (.iaload, 1) := by decide +kernel
theorem dL_law_1317 : decode cL_law 1317 = .ok (.invokevirtual 219, 3) := by decide +kernel
theorem dL_law_1320 : decode cL_law 1320 = .ok (.istore 6, 2) := by decide +kernel
theorem dL_law_1322 : decode cL_law 1322 = .ok (.aload_n 2, 1) := by decide +kernel
theorem dL_law_1323 : decode cL_law 1323 = .ok (.invokevirtual 170, 3) := by decide +kernel
theorem dL_law_1326 : decode cL_law 1326 = .ok (.iload 5, 2) := by decide +kernel
theorem dL_law_1328 : decode cL_law 1328 = .ok (.if_icmp .eq 5, 3) := by decide +kernel
theorem dL_law_1331 : decode cL_law 1331 = .ok (.iconst 0, 1) := by decide +kernel
theorem dL_law_1332 : decode cL_law 1332 = .ok (.ireturn, 1) := by decide +kernel
