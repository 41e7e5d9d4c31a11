/-! the law's own instructions, part 5 (by program out of javap's listing) -/
theorem dW_835 : decode code 835 = .ok (.iload 4, 2) := by decide +kernel
theorem dW_837 : decode code 837 = .ok (.iconst 1, 1) := by decide +kernel
theorem dW_838 : decode code 838 = .ok (.iadd, 1) := by decide +kernel
theorem dW_839 : decode code 839 = .ok (.iaload, 1) := by decide +kernel
theorem dW_840 : decode code 840 = .ok (.aload_n 3, 1) := by decide +kernel
theorem dW_841 : decode code 841 = .ok (.invokestatic 119, 3) := by decide +kernel
theorem dW_844 : decode code 844 = .ok (.istore 5, 2) := by decide +kernel
theorem dW_846 : decode code 846 = .ok (.aload_n 2, 1) := by decide +kernel
theorem dW_847 : decode code 847 = .ok (.aload_n 0, 1) := by decide +kernel
theorem dW_848 : decode code 848 = .ok (.iload 4, 2) := by decide +kernel
theorem dW_850 : decode code 850 = .ok (.iconst 1, 1) := by decide +kernel
theorem dW_851 : decode code 851 = .ok (.iadd, 1) := by decide +kernel
theorem dW_852 : decode code 852 = .ok (.iaload, 1) := by decide +kernel
theorem dW_853 : decode code 853 = .ok (.invokevirtual 121, 3) := by decide +kernel
theorem dW_856 : decode code 856 = .ok (.istore 6, 2) := by decide +kernel
theorem dW_858 : decode code 858 = .ok (.aload_n 2, 1) := by decide +kernel
theorem dW_859 : decode code 859 = .ok (.invokevirtual 83, 3) := by decide +kernel
theorem dW_862 : decode code 862 = .ok (.iload 5, 2) := by decide +kernel
theorem dW_864 : decode code 864 = .ok (.if_icmp .eq 5, 3) := by decide +kernel
theorem dW_867 : decode code 867 = .ok (.iconst 0, 1) := by decide +kernel
theorem dW_868 : decode code 868 = .ok (.ireturn, 1) := by decide +kernel
theorem dW_869 : decode code 869 = .ok (.iload 5, 2) := by decide +kernel
theorem dW_871 : decode code 871 = .ok (.ifCond .ne 15, 3) := by decide +kernel
theorem dW_874 : decode code 874 = .ok (.aload_n 3, 1) := by decide +kernel
theorem dW_875 : decode code 875 = .ok (.iconst 0, 1) := by decide +kernel
theorem dW_876 : decode code 876 = .ok (.laload, 1) := by decide +kernel
theorem dW_877 : decode code 877 = .ok (.iload 6, 2) := by decide +kernel
theorem dW_879 : decode code 879 = .ok (.i2l, 1) := by decide +kernel
theorem dW_880 : decode code 880 = .ok (.lcmp, 1) := by decide +kernel
theorem dW_881 : decode code 881 = .ok (.ifCond .eq 5, 3) := by decide +kernel
theorem dW_884 : decode code 884 = .ok (.iconst 0, 1) := by decide +kernel
theorem dW_885 : decode code 885 = .ok (.ireturn, 1) := by decide +kernel
theorem dW_886 : decode code 886 = .ok (.goto 318, 3) := by decide +kernel
theorem dW_889 : decode code 889 = .ok (.aload_n 1, 1) := by decide +kernel
theorem dW_890 : decode code 890 = .ok (.aload_n 3, 1) := by decide +kernel
theorem dW_891 : decode code 891 = .ok (.invokestatic 122, 3) := by decide +kernel
theorem dW_894 : decode code 894 = .ok (.istore 5, 2) := by decide +kernel
theorem dW_896 : decode code 896 = .ok (.aload_n 2, 1) := by decide +kernel
theorem dW_897 : decode code 897 = .ok (.invokevirtual 125, 3) := by decide +kernel
theorem dW_900 : decode code 900 = .ok (.istore 6, 2) := by decide +kernel
theorem dW_902 : decode code 902 = .ok (.aload_n 2, 1) := by decide +kernel
theorem dW_903 : decode code 903 = .ok (.invokevirtual 83, 3) := by decide +kernel
theorem dW_906 : decode code 906 = .ok (.iload 5, 2) := by decide +kernel
theorem dW_908 : decode code 908 = .ok (.if_icmp .eq 5, 3) := by decide +kernel
theorem dW_911 : decode code 911 = .ok (.iconst 0, 1) := by decide +kernel
theorem dW_912 : decode code 912 = .ok (.ireturn, 1) := by decide +kernel
theorem dW_913 : decode code 913 = .ok (.iload 5, 2) := by decide +kernel
theorem dW_915 : decode code 915 = .ok (.ifCond .ne 15, 3) := by decide +kernel
theorem dW_918 : decode code 918 = .ok (.aload_n 3, 1) := by decide +kernel
theorem dW_919 : decode code 919 = .ok (.iconst 0, 1) := by decide +kernel
theorem dW_920 : decode code 920 = .ok (.laload, 1) := by decide +kernel
theorem dW_921 : decode code 921 = .ok (.iload 6, 2) := by decide +kernel
theorem dW_923 : decode code 923 = .ok (.i2l, 1) := by decide +kernel
theorem dW_924 : decode code 924 = .ok (.lcmp, 1) := by decide +kernel
theorem dW_925 : decode code 925 = .ok (.ifCond .eq 5, 3) := by decide +kernel
theorem dW_928 : decode code 928 = .ok (.iconst 0, 1) := by decide +kernel
theorem dW_929 : decode code 929 = .ok (.ireturn, 1) := by decide +kernel
theorem dW_930 : decode code 930 = .ok (.goto 274, 3) := by decide +kernel
theorem dW_933 : decode code 933 = .ok (.aload_n 1, 1) := by decide +kernel
theorem dW_934 : decode code 934 = .ok (.aload_n 3, 1) := by decide +kernel
theorem dW_935 : decode code 935 = .ok (.invokestatic 126, 3) := by decide +kernel
theorem dW_938 : decode code 938 = .ok (.istore 5, 2) := by decide +kernel
theorem dW_940 : decode code 940 = .ok (.aload_n 2, 1) := by decide +kernel
theorem dW_941 : decode code 941 = .ok (.invokevirtual 128, 3) := by decide +kernel
theorem dW_944 : decode code 944 = .ok (.istore 6, 2) := by decide +kernel
theorem dW_946 : decode code 946 = .ok (.aload_n 2, 1) := by decide +kernel
theorem dW_947 : decode code 947 = .ok (.invokevirtual 83, 3) := by decide +kernel
theorem dW_950 : decode code 950 = .ok (.iload 5, 2) := by decide +kernel
theorem dW_952 : decode code 952 = .ok (.if_icmp .eq 5, 3) := by decide +kernel
theorem dW_955 : decode code 955 = .ok (.iconst 0, 1) := by decide +kernel
theorem dW_956 : decode code 956 = .ok (.ireturn, 1) := by decide +kernel
theorem dW_957 : decode code 957 = .ok (.iload 5, 2) := by decide +kernel
theorem dW_959 : decode code 959 = .ok (.ifCond .ne 15, 3) := by decide +kernel
theorem dW_962 : decode code 962 = .ok (.aload_n 3, 1) := by decide +kernel
theorem dW_963 : decode code 963 = .ok (.iconst 0, 1) := by decide +kernel
theorem dW_964 : decode code 964 = .ok (.laload, 1) := by decide +kernel
theorem dW_965 : decode code 965 = .ok (.iload 6, 2) := by decide +kernel
theorem dW_967 : decode code 967 = .ok (.i2l, 1) := by decide +kernel
theorem dW_968 : decode code 968 = .ok (.lcmp, 1) := by decide +kernel
theorem dW_969 : decode code 969 = .ok (.ifCond .eq 5, 3) := by decide +kernel
theorem dW_972 : decode code 972 = .ok (.iconst 0, 1) := by decide +kernel
theorem dW_973 : decode code 973 = .ok (.ireturn, 1) := by decide +kernel
theorem dW_974 : decode code 974 = .ok (.goto 230, 3) := by decide +kernel
theorem dW_977 : decode code 977 = .ok (.aload_n 1, 1) := by decide +kernel
theorem dW_978 : decode code 978 = .ok (.aload_n 0, 1) := by decide +kernel
theorem dW_979 : decode code 979 = .ok (.iload 4, 2) := by decide +kernel
theorem dW_981 : decode code 981 = .ok (.iconst 1, 1) := by decide +kernel
theorem dW_982 : decode code 982 = .ok (.iadd, 1) := by decide +kernel
theorem dW_983 : decode code 983 = .ok (.iaload, 1) := by decide +kernel
theorem dW_984 : decode code 984 = .ok (.aload_n 0, 1) := by decide +kernel
theorem dW_985 : decode code 985 = .ok (.iload 4, 2) := by decide +kernel
theorem dW_987 : decode code 987 = .ok (.iconst 2, 1) := by decide +kernel
theorem dW_988 : decode code 988 = .ok (.iadd, 1) := by decide +kernel
theorem dW_989 : decode code 989 = .ok (.iaload, 1) := by decide +kernel
theorem dW_990 : decode code 990 = .ok (.aload_n 3, 1) := by decide +kernel
theorem dW_991 : decode code 991 = .ok (.invokestatic 129, 3) := by decide +kernel
theorem dW_994 : decode code 994 = .ok (.istore 5, 2) := by decide +kernel
theorem dW_996 : decode code 996 = .ok (.aload_n 2, 1) := by decide +kernel
theorem dW_997 : decode code 997 = .ok (.aload_n 0, 1) := by decide +kernel
theorem dW_998 : decode code 998 = .ok (.iload 4, 2) := by decide +kernel
theorem dW_1000 : decode code 1000 = .ok (.iconst 1, 1) := by decide +kernel
theorem dW_1001 : decode code 1001 = .ok (.iadd, 1) := by decide +kernel
theorem dW_1002 : decode code 1002 = .ok (.iaload, 1) := by decide +kernel
theorem dW_1003 : decode code 1003 = .ok (.aload_n 0, 1) := by decide +kernel
theorem dW_1004 : decode code 1004 = .ok (.iload 4, 2) := by decide +kernel
theorem dW_1006 : decode code 1006 = .ok (.iconst 2, 1) := by decide +kernel
theorem dW_1007 : decode code 1007 = .ok (.iadd, 1) := by decide +kernel
theorem dW_1008 : decode code 1008 = .ok (.iaload, 1) := by decide +kernel
theorem dW_1009 : decode code 1009 = .ok (.invokevirtual 132, 3) := by decide +kernel
theorem dW_1012 : decode code 1012 = .ok (.istore 6, 2) := by decide +kernel
theorem dW_1014 : decode code 1014 = .ok (.aload_n 2, 1) := by decide +kernel
theorem dW_1015 : decode code 1015 = .ok (.invokevirtual 83, 3) := by decide +kernel
theorem dW_1018 : decode code 1018 = .ok (.iload 5, 2) := by decide +kernel
theorem dW_1020 : decode code 1020 = .ok (.if_icmp .eq 5, 3) := by decide +kernel
theorem dW_1023 : decode code 1023 = .ok (.iconst 0, 1) := by decide +kernel
theorem dW_1024 : decode code 1024 = .ok (.ireturn, 1) := by decide +kernel
theorem dW_1025 : decode code 1025 = .ok (.iload 5, 2) := by decide +kernel
theorem dW_1027 : decode code 1027 = .ok (.ifCond .ne 15, 3) := by decide +kernel
theorem dW_1030 : decode code 1030 = .ok (.aload_n 3, 1) := by decide +kernel
theorem dW_1031 : decode code 1031 = .ok (.iconst 0, 1) := by decide +kernel
