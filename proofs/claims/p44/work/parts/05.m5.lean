theorem dL_law_2850 : decode cL_law 2850 = .ok (.aload_n 1, 1) := by decide +kernel
theorem dL_law_2851 : decode cL_law 2851 = .ok (.iconst 4, 1) := by decide +kernel
theorem dL_law_2852 : decode cL_law 2852 = .ok (.invokevirtual 42, 3) := by decide +kernel
theorem dL_law_2855 : decode cL_law 2855 = .ok (.iload 10, 2) := by decide +kernel
theorem dL_law_2857 : decode cL_law 2857 = .ok (.if_icmp .ne 69, 3) := by decide +kernel
theorem dL_law_2860 : decode cL_law 2860 = .ok (.aload_n 1, 1) := by decide +kernel
theorem dL_law_2861 : decode cL_law 2861 = .ok (.iconst 0, 1) := by decide +kernel
theorem dL_law_2862 : decode cL_law 2862 = .ok (.invokevirtual 107, 3) := by decide +kernel
theorem dL_law_2865 : decode cL_law 2865 = .ok (.iload 7, 2) := by decide +kernel
theorem dL_law_2867 : decode cL_law 2867 = .ok (.if_icmp .ne 59, 3) := by decide +kernel
theorem dL_law_2870 : decode cL_law 2870 = .ok (.aload_n 1, 1) := by decide +kernel
theorem dL_law_2871 : decode cL_law 2871 = .ok (.iconst 0, 1) := by decide +kernel
theorem dL_law_2872 : decode cL_law 2872 = .ok (.invokevirtual 113, 3) := by decide +kernel
theorem dL_law_2875 : decode cL_law 2875 = .ok (.ifCond .ne 51, 3) := by decide +kernel
theorem dL_law_2878 : decode cL_law 2878 = .ok (.aload_n 1, 1) := by decide +kernel
theorem dL_law_2879 : decode cL_law 2879 = .ok (.iconst 1, 1) := by decide +kernel
theorem dL_law_2880 : decode cL_law 2880 = .ok (.invokevirtual 42, 3) := by decide +kernel
theorem dL_law_2883 : decode cL_law 2883 = .ok (.ifCond .ne 43, 3) := by decide +kernel
theorem dL_law_2886 : decode cL_law 2886 = .ok (.aload_n 1, 1) := by decide +kernel
theorem dL_law_2887 : decode cL_law 2887 = .ok (.iconst 3, 1) := by decide +kernel
theorem dL_law_2888 : decode cL_law 2888 = .ok (.invokevirtual 42, 3) := by decide +kernel
theorem dL_law_2891 : decode cL_law 2891 = .ok (.ifCond .ne 35, 3) := by decide +kernel
theorem dL_law_2894 : decode cL_law 2894 = .ok (.aload_n 1, 1) := by decide +kernel
theorem dL_law_2895 : decode cL_law 2895 = .ok (.iconst 4, 1) := by decide +kernel
theorem dL_law_2896 : decode cL_law 2896 = .ok (.invokevirtual 42, 3) := by decide +kernel
theorem dL_law_2899 : decode cL_law 2899 = .ok (.iload 5, 2) := by decide +kernel
theorem dL_law_2901 : decode cL_law 2901 = .ok (.if_icmp .ne 25, 3) := by decide +kernel
theorem dL_law_2904 : decode cL_law 2904 = .ok (.aload_n 1, 1) := by decide +kernel
theorem dL_law_2905 : decode cL_law 2905 = .ok (.iconst 5, 1) := by decide +kernel
theorem dL_law_2906 : decode cL_law 2906 = .ok (.invokevirtual 42, 3) := by decide +kernel
theorem dL_law_2909 : decode cL_law 2909 = .ok (.ifCond .ne 17, 3) := by decide +kernel
theorem dL_law_2912 : decode cL_law 2912 = .ok (.aload_n 1, 1) := by decide +kernel
theorem dL_law_2913 : decode cL_law 2913 = .ok (.bipush 8, 2) := by decide +kernel
theorem dL_law_2915 : decode cL_law 2915 = .ok (.invokevirtual 42, 3) := by decide +kernel
theorem dL_law_2918 : decode cL_law 2918 = .ok (.iconst 2, 1) := by decide +kernel
theorem dL_law_2919 : decode cL_law 2919 = .ok (.if_icmp .ne 7, 3) := by decide +kernel
theorem dL_law_2922 : decode cL_law 2922 = .ok (.iconst 1, 1) := by decide +kernel
theorem dL_law_2923 : decode cL_law 2923 = .ok (.goto 4, 3) := by decide +kernel
theorem dL_law_2926 : decode cL_law 2926 = .ok (.iconst 0, 1) := by decide +kernel
theorem dL_law_2927 : decode cL_law 2927 = .ok (.ireturn, 1) := by decide +kernel
