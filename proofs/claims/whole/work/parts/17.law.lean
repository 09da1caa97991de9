theorem ml_L_100 : Cond.methodLink RL 100 yX9_rain ∈ xtb := xword 615 (by decide +kernel) rfl
theorem ml_L_103 : Cond.methodLink RL 103 yX10_rain ∈ xtb := xword 945 (by decide +kernel) rfl
theorem ml_L_104 : Cond.methodLink RL 104 yX9_mean ∈ xtb := xword 623 (by decide +kernel) rfl
theorem ml_L_107 : Cond.methodLink RL 107 yX10_mean ∈ xtb := xword 957 (by decide +kernel) rfl
theorem ml_L_108 : Cond.methodLink RL 108 yX9_flow ∈ xtb := xword 627 (by decide +kernel) rfl
theorem ml_L_112 : Cond.methodLink RL 112 yX10_flow ∈ xtb := xword 961 (by decide +kernel) rfl
theorem ml_L_115 : Cond.methodLink RL 115 yX9_ahead ∈ xtb := xword 639 (by decide +kernel) rfl
theorem ml_L_119 : Cond.methodLink RL 119 yX10_ahead ∈ xtb := xword 970 (by decide +kernel) rfl
theorem ml_L_12 : Cond.methodLink RL 12 yX10_init ∈ xtb := xword 698 (by decide +kernel) rfl
theorem ml_L_120 : Cond.methodLink RL 120 yX9_week ∈ xtb := xword 643 (by decide +kernel) rfl
theorem ml_L_123 : Cond.methodLink RL 123 yX10_week ∈ xtb := xword 974 (by decide +kernel) rfl
theorem ml_L_124 : Cond.methodLink RL 124 yX9_cleft ∈ xtb := xword 666 (by decide +kernel) rfl
theorem ml_L_127 : Cond.methodLink RL 127 yX10_cleft ∈ xtb := xword 986 (by decide +kernel) rfl
theorem ml_L_128 : Cond.methodLink RL 128 yX9_misses ∈ xtb := xword 691 (by decide +kernel) rfl
theorem ml_L_13 : Cond.methodLink RL 13 yX9_put ∈ xtb := xword 326 (by decide +kernel) rfl
theorem ml_L_131 : Cond.methodLink RL 131 yX10_misses ∈ xtb := xword 998 (by decide +kernel) rfl
theorem ml_L_17 : Cond.methodLink RL 17 yX10_put ∈ xtb := xword 782 (by decide +kernel) rfl
theorem ml_L_18 : Cond.methodLink RL 18 yX9_lift ∈ xtb := xword 343 (by decide +kernel) rfl
theorem ml_L_22 : Cond.methodLink RL 22 yX10_lift ∈ xtb := xword 792 (by decide +kernel) rfl
theorem ml_L_23 : Cond.methodLink RL 23 yX9_look ∈ xtb := xword 351 (by decide +kernel) rfl
theorem ml_L_27 : Cond.methodLink RL 27 yX10_look ∈ xtb := xword 800 (by decide +kernel) rfl
theorem ml_L_28 : Cond.methodLink RL 28 yX9_read ∈ xtb := xword 355 (by decide +kernel) rfl
theorem ml_L_31 : Cond.methodLink RL 31 yX10_read ∈ xtb := xword 804 (by decide +kernel) rfl
theorem ml_L_32 : Cond.methodLink RL 32 yX9_full ∈ xtb := xword 366 (by decide +kernel) rfl
theorem ml_L_35 : Cond.methodLink RL 35 yX10_full ∈ xtb := xword 808 (by decide +kernel) rfl
theorem ml_L_36 : Cond.methodLink RL 36 yX9_melt ∈ xtb := xword 378 (by decide +kernel) rfl
theorem ml_L_39 : Cond.methodLink RL 39 yX10_melt ∈ xtb := xword 812 (by decide +kernel) rfl
theorem ml_L_40 : Cond.methodLink RL 40 yX9_other ∈ xtb := xword 390 (by decide +kernel) rfl
theorem ml_L_43 : Cond.methodLink RL 43 yX10_other ∈ xtb := xword 816 (by decide +kernel) rfl
theorem ml_L_44 : Cond.methodLink RL 44 yX9_hand ∈ xtb := xword 394 (by decide +kernel) rfl
theorem ml_L_48 : Cond.methodLink RL 48 yX10_hand ∈ xtb := xword 820 (by decide +kernel) rfl
theorem ml_L_49 : Cond.methodLink RL 49 yX9_close ∈ xtb := xword 406 (by decide +kernel) rfl
theorem ml_L_53 : Cond.methodLink RL 53 yX10_close ∈ xtb := xword 824 (by decide +kernel) rfl
theorem ml_L_54 : Cond.methodLink RL 54 yX9_today ∈ xtb := xword 410 (by decide +kernel) rfl
theorem ml_L_57 : Cond.methodLink RL 57 yX10_today ∈ xtb := xword 828 (by decide +kernel) rfl
theorem ml_L_58 : Cond.methodLink RL 58 yX9_set ∈ xtb := xword 414 (by decide +kernel) rfl
theorem ml_L_62 : Cond.methodLink RL 62 yX10_set ∈ xtb := xword 832 (by decide +kernel) rfl
theorem ml_L_63 : Cond.methodLink RL 63 yX9_raw ∈ xtb := xword 422 (by decide +kernel) rfl
theorem ml_L_66 : Cond.methodLink RL 66 yX10_raw ∈ xtb := xword 836 (by decide +kernel) rfl
theorem ml_L_67 : Cond.methodLink RL 67 yX9_known ∈ xtb := xword 452 (by decide +kernel) rfl
theorem ml_L_70 : Cond.methodLink RL 70 yX10_known ∈ xtb := xword 860 (by decide +kernel) rfl
theorem ml_L_71 : Cond.methodLink RL 71 yX9_why ∈ xtb := xword 456 (by decide +kernel) rfl
theorem ml_L_74 : Cond.methodLink RL 74 yX10_why ∈ xtb := xword 864 (by decide +kernel) rfl
theorem ml_L_75 : Cond.methodLink RL 75 yX9_state ∈ xtb := xword 532 (by decide +kernel) rfl
theorem ml_L_78 : Cond.methodLink RL 78 yX10_state ∈ xtb := xword 892 (by decide +kernel) rfl
theorem ml_L_79 : Cond.methodLink RL 79 yX9_number ∈ xtb := xword 559 (by decide +kernel) rfl
theorem ml_L_82 : Cond.methodLink RL 82 yX10_number ∈ xtb := xword 909 (by decide +kernel) rfl
theorem ml_L_83 : Cond.methodLink RL 83 yX9_from ∈ xtb := xword 577 (by decide +kernel) rfl
theorem ml_L_86 : Cond.methodLink RL 86 yX10_from ∈ xtb := xword 876 (by decide +kernel) rfl
theorem ml_L_87 : Cond.methodLink RL 87 yX9_part ∈ xtb := xword 585 (by decide +kernel) rfl
theorem ml_L_9 : Cond.methodLink RL 9 yX9_init ∈ xtb := xword 63 (by decide +kernel) rfl
theorem ml_L_90 : Cond.methodLink RL 90 yX10_part ∈ xtb := xword 921 (by decide +kernel) rfl
theorem ml_L_91 : Cond.methodLink RL 91 yX9_squares ∈ xtb := xword 595 (by decide +kernel) rfl
theorem ml_L_94 : Cond.methodLink RL 94 yX10_squares ∈ xtb := xword 933 (by decide +kernel) rfl
theorem ml_L_95 : Cond.methodLink RL 95 yX9_valley ∈ xtb := xword 604 (by decide +kernel) rfl
theorem ml_L_99 : Cond.methodLink RL 99 yX10_valley ∈ xtb := xword 937 (by decide +kernel) rfl
theorem meX10_ahead : xMeV iX10_ahead := ⟨⟨xword 973 (by decide +kernel) rfl, xword 59 (by decide +kernel) rfl, by decide +kernel, by decide +kernel⟩, xword 971 (by decide +kernel) rfl, xword 972 (by decide +kernel) rfl⟩
theorem prX10_ahead : (parseMethodDescriptor yX10_ahead.desc).map (fun d => d.parameters.length) = some 2 := by decide +kernel
theorem meX10_cleft : xMeV iX10_cleft := ⟨⟨xword 989 (by decide +kernel) rfl, xword 59 (by decide +kernel) rfl, by decide +kernel, by decide +kernel⟩, xword 987 (by decide +kernel) rfl, xword 988 (by decide +kernel) rfl⟩
theorem prX10_cleft : (parseMethodDescriptor yX10_cleft.desc).map (fun d => d.parameters.length) = some 1 := by decide +kernel
theorem meX10_close : xMeV iX10_close := ⟨⟨xword 827 (by decide +kernel) rfl, xword 59 (by decide +kernel) rfl, by decide +kernel, by decide +kernel⟩, xword 825 (by decide +kernel) rfl, xword 826 (by decide +kernel) rfl⟩
theorem prX10_close : (parseMethodDescriptor yX10_close.desc).map (fun d => d.parameters.length) = some 0 := by decide +kernel
theorem meX10_flow : xMeV iX10_flow := ⟨⟨xword 964 (by decide +kernel) rfl, xword 59 (by decide +kernel) rfl, by decide +kernel, by decide +kernel⟩, xword 962 (by decide +kernel) rfl, xword 963 (by decide +kernel) rfl⟩
theorem prX10_flow : (parseMethodDescriptor yX10_flow.desc).map (fun d => d.parameters.length) = some 2 := by decide +kernel
theorem meX10_from : xMeV iX10_from := ⟨⟨xword 879 (by decide +kernel) rfl, xword 59 (by decide +kernel) rfl, by decide +kernel, by decide +kernel⟩, xword 877 (by decide +kernel) rfl, xword 878 (by decide +kernel) rfl⟩
theorem prX10_from : (parseMethodDescriptor yX10_from.desc).map (fun d => d.parameters.length) = some 3 := by decide +kernel
theorem meX10_full : xMeV iX10_full := ⟨⟨xword 811 (by decide +kernel) rfl, xword 59 (by decide +kernel) rfl, by decide +kernel, by decide +kernel⟩, xword 809 (by decide +kernel) rfl, xword 810 (by decide +kernel) rfl⟩
theorem prX10_full : (parseMethodDescriptor yX10_full.desc).map (fun d => d.parameters.length) = some 2 := by decide +kernel
theorem meX10_hand : xMeV iX10_hand := ⟨⟨xword 823 (by decide +kernel) rfl, xword 59 (by decide +kernel) rfl, by decide +kernel, by decide +kernel⟩, xword 821 (by decide +kernel) rfl, xword 822 (by decide +kernel) rfl⟩
theorem prX10_hand : (parseMethodDescriptor yX10_hand.desc).map (fun d => d.parameters.length) = some 3 := by decide +kernel
theorem meX10_known : xMeV iX10_known := ⟨⟨xword 863 (by decide +kernel) rfl, xword 59 (by decide +kernel) rfl, by decide +kernel, by decide +kernel⟩, xword 861 (by decide +kernel) rfl, xword 862 (by decide +kernel) rfl⟩
theorem prX10_known : (parseMethodDescriptor yX10_known.desc).map (fun d => d.parameters.length) = some 3 := by decide +kernel
theorem meX10_lift : xMeV iX10_lift := ⟨⟨xword 795 (by decide +kernel) rfl, xword 59 (by decide +kernel) rfl, by decide +kernel, by decide +kernel⟩, xword 793 (by decide +kernel) rfl, xword 794 (by decide +kernel) rfl⟩
theorem prX10_lift : (parseMethodDescriptor yX10_lift.desc).map (fun d => d.parameters.length) = some 1 := by decide +kernel
theorem meX10_look : xMeV iX10_look := ⟨⟨xword 803 (by decide +kernel) rfl, xword 59 (by decide +kernel) rfl, by decide +kernel, by decide +kernel⟩, xword 801 (by decide +kernel) rfl, xword 802 (by decide +kernel) rfl⟩
theorem prX10_look : (parseMethodDescriptor yX10_look.desc).map (fun d => d.parameters.length) = some 2 := by decide +kernel
theorem meX10_mean : xMeV iX10_mean := ⟨⟨xword 960 (by decide +kernel) rfl, xword 59 (by decide +kernel) rfl, by decide +kernel, by decide +kernel⟩, xword 958 (by decide +kernel) rfl, xword 959 (by decide +kernel) rfl⟩
theorem prX10_mean : (parseMethodDescriptor yX10_mean.desc).map (fun d => d.parameters.length) = some 2 := by decide +kernel
theorem meX10_melt : xMeV iX10_melt := ⟨⟨xword 815 (by decide +kernel) rfl, xword 59 (by decide +kernel) rfl, by decide +kernel, by decide +kernel⟩, xword 813 (by decide +kernel) rfl, xword 814 (by decide +kernel) rfl⟩
theorem prX10_melt : (parseMethodDescriptor yX10_melt.desc).map (fun d => d.parameters.length) = some 2 := by decide +kernel
theorem meX10_misses : xMeV iX10_misses := ⟨⟨xword 1001 (by decide +kernel) rfl, xword 59 (by decide +kernel) rfl, by decide +kernel, by decide +kernel⟩, xword 999 (by decide +kernel) rfl, xword 1000 (by decide +kernel) rfl⟩
theorem prX10_misses : (parseMethodDescriptor yX10_misses.desc).map (fun d => d.parameters.length) = some 2 := by decide +kernel
theorem meX10_number : xMeV iX10_number := ⟨⟨xword 912 (by decide +kernel) rfl, xword 59 (by decide +kernel) rfl, by decide +kernel, by decide +kernel⟩, xword 910 (by decide +kernel) rfl, xword 911 (by decide +kernel) rfl⟩
theorem prX10_number : (parseMethodDescriptor yX10_number.desc).map (fun d => d.parameters.length) = some 2 := by decide +kernel
theorem meX10_other : xMeV iX10_other := ⟨⟨xword 819 (by decide +kernel) rfl, xword 59 (by decide +kernel) rfl, by decide +kernel, by decide +kernel⟩, xword 817 (by decide +kernel) rfl, xword 818 (by decide +kernel) rfl⟩
theorem prX10_other : (parseMethodDescriptor yX10_other.desc).map (fun d => d.parameters.length) = some 2 := by decide +kernel
theorem meX10_part : xMeV iX10_part := ⟨⟨xword 924 (by decide +kernel) rfl, xword 59 (by decide +kernel) rfl, by decide +kernel, by decide +kernel⟩, xword 922 (by decide +kernel) rfl, xword 923 (by decide +kernel) rfl⟩
theorem prX10_part : (parseMethodDescriptor yX10_part.desc).map (fun d => d.parameters.length) = some 3 := by decide +kernel
theorem meX10_put : xMeV iX10_put := ⟨⟨xword 785 (by decide +kernel) rfl, xword 59 (by decide +kernel) rfl, by decide +kernel, by decide +kernel⟩, xword 783 (by decide +kernel) rfl, xword 784 (by decide +kernel) rfl⟩
theorem prX10_put : (parseMethodDescriptor yX10_put.desc).map (fun d => d.parameters.length) = some 5 := by decide +kernel
theorem meX10_rain : xMeV iX10_rain := ⟨⟨xword 948 (by decide +kernel) rfl, xword 59 (by decide +kernel) rfl, by decide +kernel, by decide +kernel⟩, xword 946 (by decide +kernel) rfl, xword 947 (by decide +kernel) rfl⟩
theorem prX10_rain : (parseMethodDescriptor yX10_rain.desc).map (fun d => d.parameters.length) = some 2 := by decide +kernel
theorem meX10_raw : xMeV iX10_raw := ⟨⟨xword 839 (by decide +kernel) rfl, xword 59 (by decide +kernel) rfl, by decide +kernel, by decide +kernel⟩, xword 837 (by decide +kernel) rfl, xword 838 (by decide +kernel) rfl⟩
theorem prX10_raw : (parseMethodDescriptor yX10_raw.desc).map (fun d => d.parameters.length) = some 2 := by decide +kernel
theorem meX10_read : xMeV iX10_read := ⟨⟨xword 807 (by decide +kernel) rfl, xword 59 (by decide +kernel) rfl, by decide +kernel, by decide +kernel⟩, xword 805 (by decide +kernel) rfl, xword 806 (by decide +kernel) rfl⟩
theorem prX10_read : (parseMethodDescriptor yX10_read.desc).map (fun d => d.parameters.length) = some 2 := by decide +kernel
theorem meX10_set : xMeV iX10_set := ⟨⟨xword 835 (by decide +kernel) rfl, xword 59 (by decide +kernel) rfl, by decide +kernel, by decide +kernel⟩, xword 833 (by decide +kernel) rfl, xword 834 (by decide +kernel) rfl⟩
theorem prX10_set : (parseMethodDescriptor yX10_set.desc).map (fun d => d.parameters.length) = some 2 := by decide +kernel
theorem meX10_squares : xMeV iX10_squares := ⟨⟨xword 936 (by decide +kernel) rfl, xword 59 (by decide +kernel) rfl, by decide +kernel, by decide +kernel⟩, xword 934 (by decide +kernel) rfl, xword 935 (by decide +kernel) rfl⟩
theorem prX10_squares : (parseMethodDescriptor yX10_squares.desc).map (fun d => d.parameters.length) = some 2 := by decide +kernel
theorem meX10_state : xMeV iX10_state := ⟨⟨xword 895 (by decide +kernel) rfl, xword 59 (by decide +kernel) rfl, by decide +kernel, by decide +kernel⟩, xword 893 (by decide +kernel) rfl, xword 894 (by decide +kernel) rfl⟩
theorem prX10_state : (parseMethodDescriptor yX10_state.desc).map (fun d => d.parameters.length) = some 2 := by decide +kernel
theorem meX10_today : xMeV iX10_today := ⟨⟨xword 831 (by decide +kernel) rfl, xword 59 (by decide +kernel) rfl, by decide +kernel, by decide +kernel⟩, xword 829 (by decide +kernel) rfl, xword 830 (by decide +kernel) rfl⟩
theorem prX10_today : (parseMethodDescriptor yX10_today.desc).map (fun d => d.parameters.length) = some 0 := by decide +kernel
theorem meX10_valley : xMeV iX10_valley := ⟨⟨xword 940 (by decide +kernel) rfl, xword 59 (by decide +kernel) rfl, by decide +kernel, by decide +kernel⟩, xword 938 (by decide +kernel) rfl, xword 939 (by decide +kernel) rfl⟩
theorem prX10_valley : (parseMethodDescriptor yX10_valley.desc).map (fun d => d.parameters.length) = some 4 := by decide +kernel
theorem meX10_week : xMeV iX10_week := ⟨⟨xword 977 (by decide +kernel) rfl, xword 59 (by decide +kernel) rfl, by decide +kernel, by decide +kernel⟩, xword 975 (by decide +kernel) rfl, xword 976 (by decide +kernel) rfl⟩
theorem prX10_week : (parseMethodDescriptor yX10_week.desc).map (fun d => d.parameters.length) = some 3 := by decide +kernel
theorem meX10_why : xMeV iX10_why := ⟨⟨xword 867 (by decide +kernel) rfl, xword 59 (by decide +kernel) rfl, by decide +kernel, by decide +kernel⟩, xword 865 (by decide +kernel) rfl, xword 866 (by decide +kernel) rfl⟩
theorem prX10_why : (parseMethodDescriptor yX10_why.desc).map (fun d => d.parameters.length) = some 2 := by decide +kernel
theorem meX9_ahead : xMeV iX9_ahead := ⟨⟨xword 642 (by decide +kernel) rfl, xword 48 (by decide +kernel) rfl, by decide +kernel, by decide +kernel⟩, xword 640 (by decide +kernel) rfl, xword 641 (by decide +kernel) rfl⟩
theorem prX9_ahead : (parseMethodDescriptor yX9_ahead.desc).map (fun d => d.parameters.length) = some 2 := by decide +kernel
theorem meX9_cleft : xMeV iX9_cleft := ⟨⟨xword 669 (by decide +kernel) rfl, xword 48 (by decide +kernel) rfl, by decide +kernel, by decide +kernel⟩, xword 667 (by decide +kernel) rfl, xword 668 (by decide +kernel) rfl⟩
theorem prX9_cleft : (parseMethodDescriptor yX9_cleft.desc).map (fun d => d.parameters.length) = some 1 := by decide +kernel
theorem meX9_close : xMeV iX9_close := ⟨⟨xword 409 (by decide +kernel) rfl, xword 48 (by decide +kernel) rfl, by decide +kernel, by decide +kernel⟩, xword 407 (by decide +kernel) rfl, xword 408 (by decide +kernel) rfl⟩
theorem prX9_close : (parseMethodDescriptor yX9_close.desc).map (fun d => d.parameters.length) = some 0 := by decide +kernel
theorem meX9_flow : xMeV iX9_flow := ⟨⟨xword 630 (by decide +kernel) rfl, xword 48 (by decide +kernel) rfl, by decide +kernel, by decide +kernel⟩, xword 628 (by decide +kernel) rfl, xword 629 (by decide +kernel) rfl⟩
theorem prX9_flow : (parseMethodDescriptor yX9_flow.desc).map (fun d => d.parameters.length) = some 2 := by decide +kernel
theorem meX9_from : xMeV iX9_from := ⟨⟨xword 580 (by decide +kernel) rfl, xword 48 (by decide +kernel) rfl, by decide +kernel, by decide +kernel⟩, xword 578 (by decide +kernel) rfl, xword 579 (by decide +kernel) rfl⟩
theorem prX9_from : (parseMethodDescriptor yX9_from.desc).map (fun d => d.parameters.length) = some 3 := by decide +kernel
theorem meX9_full : xMeV iX9_full := ⟨⟨xword 369 (by decide +kernel) rfl, xword 48 (by decide +kernel) rfl, by decide +kernel, by decide +kernel⟩, xword 367 (by decide +kernel) rfl, xword 368 (by decide +kernel) rfl⟩
theorem prX9_full : (parseMethodDescriptor yX9_full.desc).map (fun d => d.parameters.length) = some 2 := by decide +kernel
theorem meX9_hand : xMeV iX9_hand := ⟨⟨xword 397 (by decide +kernel) rfl, xword 48 (by decide +kernel) rfl, by decide +kernel, by decide +kernel⟩, xword 395 (by decide +kernel) rfl, xword 396 (by decide +kernel) rfl⟩
theorem prX9_hand : (parseMethodDescriptor yX9_hand.desc).map (fun d => d.parameters.length) = some 3 := by decide +kernel
theorem meX9_known : xMeV iX9_known := ⟨⟨xword 455 (by decide +kernel) rfl, xword 48 (by decide +kernel) rfl, by decide +kernel, by decide +kernel⟩, xword 453 (by decide +kernel) rfl, xword 454 (by decide +kernel) rfl⟩
theorem prX9_known : (parseMethodDescriptor yX9_known.desc).map (fun d => d.parameters.length) = some 3 := by decide +kernel
theorem meX9_lift : xMeV iX9_lift := ⟨⟨xword 346 (by decide +kernel) rfl, xword 48 (by decide +kernel) rfl, by decide +kernel, by decide +kernel⟩, xword 344 (by decide +kernel) rfl, xword 345 (by decide +kernel) rfl⟩
theorem prX9_lift : (parseMethodDescriptor yX9_lift.desc).map (fun d => d.parameters.length) = some 1 := by decide +kernel
theorem meX9_look : xMeV iX9_look := ⟨⟨xword 354 (by decide +kernel) rfl, xword 48 (by decide +kernel) rfl, by decide +kernel, by decide +kernel⟩, xword 352 (by decide +kernel) rfl, xword 353 (by decide +kernel) rfl⟩
theorem prX9_look : (parseMethodDescriptor yX9_look.desc).map (fun d => d.parameters.length) = some 2 := by decide +kernel
theorem meX9_mean : xMeV iX9_mean := ⟨⟨xword 626 (by decide +kernel) rfl, xword 48 (by decide +kernel) rfl, by decide +kernel, by decide +kernel⟩, xword 624 (by decide +kernel) rfl, xword 625 (by decide +kernel) rfl⟩
theorem prX9_mean : (parseMethodDescriptor yX9_mean.desc).map (fun d => d.parameters.length) = some 2 := by decide +kernel
theorem meX9_melt : xMeV iX9_melt := ⟨⟨xword 381 (by decide +kernel) rfl, xword 48 (by decide +kernel) rfl, by decide +kernel, by decide +kernel⟩, xword 379 (by decide +kernel) rfl, xword 380 (by decide +kernel) rfl⟩
theorem prX9_melt : (parseMethodDescriptor yX9_melt.desc).map (fun d => d.parameters.length) = some 2 := by decide +kernel
theorem meX9_misses : xMeV iX9_misses := ⟨⟨xword 694 (by decide +kernel) rfl, xword 48 (by decide +kernel) rfl, by decide +kernel, by decide +kernel⟩, xword 692 (by decide +kernel) rfl, xword 693 (by decide +kernel) rfl⟩
theorem prX9_misses : (parseMethodDescriptor yX9_misses.desc).map (fun d => d.parameters.length) = some 2 := by decide +kernel
theorem meX9_number : xMeV iX9_number := ⟨⟨xword 562 (by decide +kernel) rfl, xword 48 (by decide +kernel) rfl, by decide +kernel, by decide +kernel⟩, xword 560 (by decide +kernel) rfl, xword 561 (by decide +kernel) rfl⟩
theorem prX9_number : (parseMethodDescriptor yX9_number.desc).map (fun d => d.parameters.length) = some 2 := by decide +kernel
theorem meX9_other : xMeV iX9_other := ⟨⟨xword 393 (by decide +kernel) rfl, xword 48 (by decide +kernel) rfl, by decide +kernel, by decide +kernel⟩, xword 391 (by decide +kernel) rfl, xword 392 (by decide +kernel) rfl⟩
theorem prX9_other : (parseMethodDescriptor yX9_other.desc).map (fun d => d.parameters.length) = some 2 := by decide +kernel
theorem meX9_part : xMeV iX9_part := ⟨⟨xword 588 (by decide +kernel) rfl, xword 48 (by decide +kernel) rfl, by decide +kernel, by decide +kernel⟩, xword 586 (by decide +kernel) rfl, xword 587 (by decide +kernel) rfl⟩
theorem prX9_part : (parseMethodDescriptor yX9_part.desc).map (fun d => d.parameters.length) = some 3 := by decide +kernel
theorem meX9_put : xMeV iX9_put := ⟨⟨xword 329 (by decide +kernel) rfl, xword 48 (by decide +kernel) rfl, by decide +kernel, by decide +kernel⟩, xword 327 (by decide +kernel) rfl, xword 328 (by decide +kernel) rfl⟩
theorem prX9_put : (parseMethodDescriptor yX9_put.desc).map (fun d => d.parameters.length) = some 5 := by decide +kernel
theorem meX9_rain : xMeV iX9_rain := ⟨⟨xword 618 (by decide +kernel) rfl, xword 48 (by decide +kernel) rfl, by decide +kernel, by decide +kernel⟩, xword 616 (by decide +kernel) rfl, xword 617 (by decide +kernel) rfl⟩
theorem prX9_rain : (parseMethodDescriptor yX9_rain.desc).map (fun d => d.parameters.length) = some 2 := by decide +kernel
theorem meX9_raw : xMeV iX9_raw := ⟨⟨xword 425 (by decide +kernel) rfl, xword 48 (by decide +kernel) rfl, by decide +kernel, by decide +kernel⟩, xword 423 (by decide +kernel) rfl, xword 424 (by decide +kernel) rfl⟩
theorem prX9_raw : (parseMethodDescriptor yX9_raw.desc).map (fun d => d.parameters.length) = some 2 := by decide +kernel
theorem meX9_read : xMeV iX9_read := ⟨⟨xword 358 (by decide +kernel) rfl, xword 48 (by decide +kernel) rfl, by decide +kernel, by decide +kernel⟩, xword 356 (by decide +kernel) rfl, xword 357 (by decide +kernel) rfl⟩
theorem prX9_read : (parseMethodDescriptor yX9_read.desc).map (fun d => d.parameters.length) = some 2 := by decide +kernel
theorem meX9_set : xMeV iX9_set := ⟨⟨xword 417 (by decide +kernel) rfl, xword 48 (by decide +kernel) rfl, by decide +kernel, by decide +kernel⟩, xword 415 (by decide +kernel) rfl, xword 416 (by decide +kernel) rfl⟩
theorem prX9_set : (parseMethodDescriptor yX9_set.desc).map (fun d => d.parameters.length) = some 2 := by decide +kernel
theorem meX9_squares : xMeV iX9_squares := ⟨⟨xword 598 (by decide +kernel) rfl, xword 48 (by decide +kernel) rfl, by decide +kernel, by decide +kernel⟩, xword 596 (by decide +kernel) rfl, xword 597 (by decide +kernel) rfl⟩
theorem prX9_squares : (parseMethodDescriptor yX9_squares.desc).map (fun d => d.parameters.length) = some 2 := by decide +kernel
theorem meX9_state : xMeV iX9_state := ⟨⟨xword 535 (by decide +kernel) rfl, xword 48 (by decide +kernel) rfl, by decide +kernel, by decide +kernel⟩, xword 533 (by decide +kernel) rfl, xword 534 (by decide +kernel) rfl⟩
theorem prX9_state : (parseMethodDescriptor yX9_state.desc).map (fun d => d.parameters.length) = some 2 := by decide +kernel
theorem meX9_today : xMeV iX9_today := ⟨⟨xword 413 (by decide +kernel) rfl, xword 48 (by decide +kernel) rfl, by decide +kernel, by decide +kernel⟩, xword 411 (by decide +kernel) rfl, xword 412 (by decide +kernel) rfl⟩
theorem prX9_today : (parseMethodDescriptor yX9_today.desc).map (fun d => d.parameters.length) = some 0 := by decide +kernel
theorem meX9_valley : xMeV iX9_valley := ⟨⟨xword 607 (by decide +kernel) rfl, xword 48 (by decide +kernel) rfl, by decide +kernel, by decide +kernel⟩, xword 605 (by decide +kernel) rfl, xword 606 (by decide +kernel) rfl⟩
theorem prX9_valley : (parseMethodDescriptor yX9_valley.desc).map (fun d => d.parameters.length) = some 4 := by decide +kernel
theorem meX9_week : xMeV iX9_week := ⟨⟨xword 646 (by decide +kernel) rfl, xword 48 (by decide +kernel) rfl, by decide +kernel, by decide +kernel⟩, xword 644 (by decide +kernel) rfl, xword 645 (by decide +kernel) rfl⟩
theorem prX9_week : (parseMethodDescriptor yX9_week.desc).map (fun d => d.parameters.length) = some 3 := by decide +kernel
theorem meX9_why : xMeV iX9_why := ⟨⟨xword 459 (by decide +kernel) rfl, xword 48 (by decide +kernel) rfl, by decide +kernel, by decide +kernel⟩, xword 457 (by decide +kernel) rfl, xword 458 (by decide +kernel) rfl⟩
theorem prX9_why : (parseMethodDescriptor yX9_why.desc).map (fun d => d.parameters.length) = some 2 := by decide +kernel
abbrev iL (nm : String) (n : Nat) (xs : Nat → Int32) : xI := (⟨RL, nm, "([I)Z"⟩, cL_law, 4, some .boolean, room_1, some (n, xs))
set_option maxRecDepth 100000 in
def fL_law (n : Nat) (xs : Nat → Int32) (C : xPw) : Option (Int32 × xM) :=
  if C.1 = 0 then
    bd (cnew C) fun m1 =>
    (fX9_init m1).bind fun q3 =>
    if q3.1 = 170 then
      bd (cnew q3) fun m4 =>
      (fX10_init m4).bind fun q6 =>
      if q6.1 = 191 ∧ xdone q6 = true then
        bd q6.2.1 fun m7 =>
        lp (fun (s9 : (Int32 × xM)) (kk10 : (Int32 × xM) → Option (Int32 × xM)) =>
          if ((Int32.ofNat n) - (6:Int32)) < s9.1 then
            some ((1:Int32), s9.2)
          else
            if xinb s9.1 n then
              bd ((xs s9.1.toNatClampNeg) &&& (31:Int32)) fun x13 =>
              if x13 = 0 then
                if xinb (s9.1 + (1:Int32)) n then
                  if xinb (s9.1 + (2:Int32)) n then
                    if xinb (s9.1 + (3:Int32)) n then
                      if xinb (s9.1 + (4:Int32)) n then
                        if xinb (s9.1 + (5:Int32)) n then
                          (fX9_put (xs (s9.1 + (1:Int32)).toNatClampNeg) (xs (s9.1 + (2:Int32)).toNatClampNeg) (xs (s9.1 + (3:Int32)).toNatClampNeg) (xs (s9.1 + (4:Int32)).toNatClampNeg) (xs (s9.1 + (5:Int32)).toNatClampNeg) s9.2).bind fun q21 =>
                          if xinb (s9.1 + (1:Int32)) n then
                            if xinb (s9.1 + (2:Int32)) n then
                              if xinb (s9.1 + (3:Int32)) n then
                                if xinb (s9.1 + (4:Int32)) n then
                                  if xinb (s9.1 + (5:Int32)) n then
                                    (fX10_put (xs (s9.1 + (1:Int32)).toNatClampNeg) (xs (s9.1 + (2:Int32)).toNatClampNeg) (xs (s9.1 + (3:Int32)).toNatClampNeg) (xs (s9.1 + (4:Int32)).toNatClampNeg) (xs (s9.1 + (5:Int32)).toNatClampNeg) q21.2).bind fun q27 =>
                                    if q21.1 = q27.1 then
                                      kk10 ((s9.1 + 6), q27.2)
                                    else
                                      some ((0:Int32), q27.2)
                                  else none
                                else none
                              else none
                            else none
                          else none
                        else none
                      else none
                    else none
                  else none
                else none
              else
              if x13 = 1 then
                if xinb (s9.1 + (1:Int32)) n then
                  (fX9_lift (xs (s9.1 + (1:Int32)).toNatClampNeg) s9.2).bind fun q31 =>
                  if xinb (s9.1 + (1:Int32)) n then
                    (fX10_lift (xs (s9.1 + (1:Int32)).toNatClampNeg) q31.2).bind fun q33 =>
                    if q31.1 = q33.1 then
                      kk10 ((s9.1 + 6), q33.2)
                    else
                      some ((0:Int32), q33.2)
                  else none
                else none
              else
              if x13 = 2 then
                if xinb (s9.1 + (1:Int32)) n then
                  if xinb (s9.1 + (2:Int32)) n then
                    (fX9_look (xs (s9.1 + (1:Int32)).toNatClampNeg) (xs (s9.1 + (2:Int32)).toNatClampNeg) s9.2).bind fun v38 =>
                    if xinb (s9.1 + (1:Int32)) n then
                      if xinb (s9.1 + (2:Int32)) n then
                        (fX10_look (xs (s9.1 + (1:Int32)).toNatClampNeg) (xs (s9.1 + (2:Int32)).toNatClampNeg) s9.2).bind fun v41 =>
                        if v38 = v41 then
                          kk10 ((s9.1 + 6), s9.2)
                        else
                          some ((0:Int32), s9.2)
                      else none
                    else none
                  else none
                else none
              else
              if x13 = 3 then
                if xinb (s9.1 + (1:Int32)) n then
                  if xinb (s9.1 + (2:Int32)) n then
                    (fX9_read (xs (s9.1 + (1:Int32)).toNatClampNeg) (xs (s9.1 + (2:Int32)).toNatClampNeg) s9.2).bind fun q46 =>
                    if xinb (s9.1 + (1:Int32)) n then
                      if xinb (s9.1 + (2:Int32)) n then
                        (fX10_read (xs (s9.1 + (1:Int32)).toNatClampNeg) (xs (s9.1 + (2:Int32)).toNatClampNeg) q46.2).bind fun q49 =>
                        if q46.1 = q49.1 then
                          kk10 ((s9.1 + 6), q49.2)
                        else
                          some ((0:Int32), q49.2)
                      else none
                    else none
                  else none
                else none
              else
              if x13 = 4 then
                if xinb (s9.1 + (1:Int32)) n then
                  if xinb (s9.1 + (2:Int32)) n then
                    (fX9_full (xs (s9.1 + (1:Int32)).toNatClampNeg) (xs (s9.1 + (2:Int32)).toNatClampNeg) s9.2).bind fun q54 =>
                    if xinb (s9.1 + (1:Int32)) n then
                      if xinb (s9.1 + (2:Int32)) n then
                        (fX10_full (xs (s9.1 + (1:Int32)).toNatClampNeg) (xs (s9.1 + (2:Int32)).toNatClampNeg) q54.2).bind fun q57 =>
                        if q54.1 = q57.1 then
                          kk10 ((s9.1 + 6), q57.2)
                        else
                          some ((0:Int32), q57.2)
                      else none
                    else none
                  else none
                else none
              else
              if x13 = 5 then
                if xinb (s9.1 + (1:Int32)) n then
                  if xinb (s9.1 + (2:Int32)) n then
                    (fX9_melt (xs (s9.1 + (1:Int32)).toNatClampNeg) (xs (s9.1 + (2:Int32)).toNatClampNeg) s9.2).bind fun q62 =>
                    if xinb (s9.1 + (1:Int32)) n then
                      if xinb (s9.1 + (2:Int32)) n then
                        (fX10_melt (xs (s9.1 + (1:Int32)).toNatClampNeg) (xs (s9.1 + (2:Int32)).toNatClampNeg) q62.2).bind fun q65 =>
                        if q62.1 = q65.1 then
                          kk10 ((s9.1 + 6), q65.2)
                        else
                          some ((0:Int32), q65.2)
                      else none
                    else none
                  else none
                else none
              else
              if x13 = 6 then
                if xinb (s9.1 + (1:Int32)) n then
                  if xinb (s9.1 + (2:Int32)) n then
                    (fX9_other (xs (s9.1 + (1:Int32)).toNatClampNeg) (xs (s9.1 + (2:Int32)).toNatClampNeg) s9.2).bind fun q70 =>
                    if xinb (s9.1 + (1:Int32)) n then
                      if xinb (s9.1 + (2:Int32)) n then
                        (fX10_other (xs (s9.1 + (1:Int32)).toNatClampNeg) (xs (s9.1 + (2:Int32)).toNatClampNeg) q70.2).bind fun q73 =>
                        if q70.1 = q73.1 then
                          kk10 ((s9.1 + 6), q73.2)
                        else
                          some ((0:Int32), q73.2)
                      else none
                    else none
                  else none
                else none
              else
              if x13 = 7 then
                if xinb (s9.1 + (1:Int32)) n then
                  if xinb (s9.1 + (2:Int32)) n then
                    if xinb (s9.1 + (3:Int32)) n then
                      (fX9_hand (xs (s9.1 + (1:Int32)).toNatClampNeg) (xs (s9.1 + (2:Int32)).toNatClampNeg) (xs (s9.1 + (3:Int32)).toNatClampNeg) s9.2).bind fun q79 =>
                      if xinb (s9.1 + (1:Int32)) n then
                        if xinb (s9.1 + (2:Int32)) n then
                          if xinb (s9.1 + (3:Int32)) n then
                            (fX10_hand (xs (s9.1 + (1:Int32)).toNatClampNeg) (xs (s9.1 + (2:Int32)).toNatClampNeg) (xs (s9.1 + (3:Int32)).toNatClampNeg) q79.2).bind fun q83 =>
                            if q79.1 = q83.1 then
                              kk10 ((s9.1 + 6), q83.2)
                            else
                              some ((0:Int32), q83.2)
                          else none
                        else none
                      else none
                    else none
                  else none
                else none
              else
              if x13 = 8 then
                (fX9_close s9.2).bind fun q86 =>
                (fX10_close q86.2).bind fun q87 =>
                if q86.1 = q87.1 then
                  kk10 ((s9.1 + 6), q87.2)
                else
                  some ((0:Int32), q87.2)
              else
              if x13 = 9 then
                (fX9_today s9.2).bind fun v90 =>
                (fX10_today s9.2).bind fun v91 =>
                if v90 = v91 then
                  kk10 ((s9.1 + 6), s9.2)
                else
                  some ((0:Int32), s9.2)
              else
              if x13 = 10 then
                if xinb (s9.1 + (1:Int32)) n then
                  if xinb (s9.1 + (2:Int32)) n then
                    (fX9_set (xs (s9.1 + (1:Int32)).toNatClampNeg) (xs (s9.1 + (2:Int32)).toNatClampNeg) s9.2).bind fun q96 =>
                    if xinb (s9.1 + (1:Int32)) n then
                      if xinb (s9.1 + (2:Int32)) n then
                        (fX10_set (xs (s9.1 + (1:Int32)).toNatClampNeg) (xs (s9.1 + (2:Int32)).toNatClampNeg) q96.2).bind fun q99 =>
                        if q96.1 = q99.1 then
                          kk10 ((s9.1 + 6), q99.2)
                        else
                          some ((0:Int32), q99.2)
                      else none
                    else none
                  else none
                else none
              else
              if x13 = 11 then
                if xinb (s9.1 + (1:Int32)) n then
                  if xinb (s9.1 + (2:Int32)) n then
                    (fX9_raw (xs (s9.1 + (1:Int32)).toNatClampNeg) (xs (s9.1 + (2:Int32)).toNatClampNeg) s9.2).bind fun v104 =>
                    if xinb (s9.1 + (1:Int32)) n then
                      if xinb (s9.1 + (2:Int32)) n then
                        (fX10_raw (xs (s9.1 + (1:Int32)).toNatClampNeg) (xs (s9.1 + (2:Int32)).toNatClampNeg) s9.2).bind fun v107 =>
                        if v104 = v107 then
                          kk10 ((s9.1 + 6), s9.2)
                        else
                          some ((0:Int32), s9.2)
                      else none
                    else none
                  else none
                else none
              else
              if x13 = 12 then
                if xinb (s9.1 + (1:Int32)) n then
                  if xinb (s9.1 + (2:Int32)) n then
                    if xinb (s9.1 + (3:Int32)) n then
                      (fX9_known (xs (s9.1 + (1:Int32)).toNatClampNeg) (xs (s9.1 + (2:Int32)).toNatClampNeg) (xs (s9.1 + (3:Int32)).toNatClampNeg) s9.2).bind fun v113 =>
                      if xinb (s9.1 + (1:Int32)) n then
                        if xinb (s9.1 + (2:Int32)) n then
                          if xinb (s9.1 + (3:Int32)) n then
                            (fX10_known (xs (s9.1 + (1:Int32)).toNatClampNeg) (xs (s9.1 + (2:Int32)).toNatClampNeg) (xs (s9.1 + (3:Int32)).toNatClampNeg) s9.2).bind fun v117 =>
                            if v113 = v117 then
                              kk10 ((s9.1 + 6), s9.2)
                            else
                              some ((0:Int32), s9.2)
                          else none
                        else none
                      else none
                    else none
                  else none
                else none
              else
              if x13 = 13 then
                if xinb (s9.1 + (1:Int32)) n then
                  if xinb (s9.1 + (2:Int32)) n then
                    (fX9_why (xs (s9.1 + (1:Int32)).toNatClampNeg) (xs (s9.1 + (2:Int32)).toNatClampNeg) s9.2).bind fun q122 =>
                    if xinb (s9.1 + (1:Int32)) n then
                      if xinb (s9.1 + (2:Int32)) n then
                        (fX10_why (xs (s9.1 + (1:Int32)).toNatClampNeg) (xs (s9.1 + (2:Int32)).toNatClampNeg) q122.2).bind fun v125 =>
                        if q122.1 = v125 then
                          kk10 ((s9.1 + 6), q122.2)
                        else
                          some ((0:Int32), q122.2)
                      else none
                    else none
                  else none
                else none
              else
              if x13 = 14 then
                if xinb (s9.1 + (1:Int32)) n then
                  if xinb (s9.1 + (2:Int32)) n then
                    (fX9_state (xs (s9.1 + (1:Int32)).toNatClampNeg) (xs (s9.1 + (2:Int32)).toNatClampNeg) s9.2).bind fun q130 =>
                    if xinb (s9.1 + (1:Int32)) n then
                      if xinb (s9.1 + (2:Int32)) n then
                        (fX10_state (xs (s9.1 + (1:Int32)).toNatClampNeg) (xs (s9.1 + (2:Int32)).toNatClampNeg) q130.2).bind fun q133 =>
                        if q130.1 = q133.1 then
                          kk10 ((s9.1 + 6), q133.2)
                        else
                          some ((0:Int32), q133.2)
                      else none
                    else none
                  else none
                else none
              else
              if x13 = 15 then
                if xinb (s9.1 + (1:Int32)) n then
                  if xinb (s9.1 + (2:Int32)) n then
                    (fX9_number (xs (s9.1 + (1:Int32)).toNatClampNeg) (xs (s9.1 + (2:Int32)).toNatClampNeg) s9.2).bind fun q138 =>
                    if xinb (s9.1 + (1:Int32)) n then
                      if xinb (s9.1 + (2:Int32)) n then
                        (fX10_number (xs (s9.1 + (1:Int32)).toNatClampNeg) (xs (s9.1 + (2:Int32)).toNatClampNeg) q138.2).bind fun q141 =>
                        if q138.1 = q141.1 then
                          kk10 ((s9.1 + 6), q141.2)
                        else
                          some ((0:Int32), q141.2)
                      else none
                    else none
                  else none
                else none
              else
              if x13 = 16 then
                if xinb (s9.1 + (1:Int32)) n then
                  if xinb (s9.1 + (2:Int32)) n then
                    if xinb (s9.1 + (3:Int32)) n then
                      (fX9_from (xs (s9.1 + (1:Int32)).toNatClampNeg) (xs (s9.1 + (2:Int32)).toNatClampNeg) (xs (s9.1 + (3:Int32)).toNatClampNeg) s9.2).bind fun q147 =>
                      if xinb (s9.1 + (1:Int32)) n then
                        if xinb (s9.1 + (2:Int32)) n then
                          if xinb (s9.1 + (3:Int32)) n then
                            (fX10_from (xs (s9.1 + (1:Int32)).toNatClampNeg) (xs (s9.1 + (2:Int32)).toNatClampNeg) (xs (s9.1 + (3:Int32)).toNatClampNeg) q147.2).bind fun q151 =>
                            if q147.1 = q151.1 then
                              kk10 ((s9.1 + 6), q151.2)
                            else
                              some ((0:Int32), q151.2)
                          else none
                        else none
                      else none
                    else none
                  else none
                else none
              else
              if x13 = 17 then
                if xinb (s9.1 + (1:Int32)) n then
                  if xinb (s9.1 + (2:Int32)) n then
                    if xinb (s9.1 + (3:Int32)) n then
                      (fX9_part (xs (s9.1 + (1:Int32)).toNatClampNeg) (xs (s9.1 + (2:Int32)).toNatClampNeg) (xs (s9.1 + (3:Int32)).toNatClampNeg) s9.2).bind fun q157 =>
                      if xinb (s9.1 + (1:Int32)) n then
                        if xinb (s9.1 + (2:Int32)) n then
                          if xinb (s9.1 + (3:Int32)) n then
                            (fX10_part (xs (s9.1 + (1:Int32)).toNatClampNeg) (xs (s9.1 + (2:Int32)).toNatClampNeg) (xs (s9.1 + (3:Int32)).toNatClampNeg) q157.2).bind fun v161 =>
                            if q157.1 = v161 then
                              kk10 ((s9.1 + 6), q157.2)
                            else
                              some ((0:Int32), q157.2)
                          else none
                        else none
                      else none
                    else none
                  else none
                else none
              else
              if x13 = 18 then
                if xinb (s9.1 + (1:Int32)) n then
                  if xinb (s9.1 + (2:Int32)) n then
                    (fX9_squares (xs (s9.1 + (1:Int32)).toNatClampNeg) (xs (s9.1 + (2:Int32)).toNatClampNeg) s9.2).bind fun q166 =>
                    if xinb (s9.1 + (1:Int32)) n then
                      if xinb (s9.1 + (2:Int32)) n then
                        (fX10_squares (xs (s9.1 + (1:Int32)).toNatClampNeg) (xs (s9.1 + (2:Int32)).toNatClampNeg) q166.2).bind fun v169 =>
                        if q166.1 = v169 then
                          kk10 ((s9.1 + 6), q166.2)
                        else
                          some ((0:Int32), q166.2)
                      else none
                    else none
                  else none
                else none
              else
              if x13 = 19 then
                if xinb (s9.1 + (1:Int32)) n then
                  if xinb (s9.1 + (2:Int32)) n then
                    if xinb (s9.1 + (3:Int32)) n then
                      if xinb (s9.1 + (4:Int32)) n then
                        jn (fun (s177 : Int32) =>
                          (fX9_valley (xs (s9.1 + (1:Int32)).toNatClampNeg) (xs (s9.1 + (2:Int32)).toNatClampNeg) (xs (s9.1 + (3:Int32)).toNatClampNeg) s177 s9.2).bind fun q179 =>
                          if xinb (s9.1 + (1:Int32)) n then
                            if xinb (s9.1 + (2:Int32)) n then
                              if xinb (s9.1 + (3:Int32)) n then
                                if xinb (s9.1 + (4:Int32)) n then
                                  jn (fun (s185 : Int32) =>
                                    (fX10_valley (xs (s9.1 + (1:Int32)).toNatClampNeg) (xs (s9.1 + (2:Int32)).toNatClampNeg) (xs (s9.1 + (3:Int32)).toNatClampNeg) s185 q179.2).bind fun q187 =>
                                    if q179.1 = q187.1 then
                                      kk10 ((s9.1 + 6), q187.2)
                                    else
                                      some ((0:Int32), q187.2))
                                  (fun (kk184 : Int32 → Option (Int32 × xM)) =>
                                    if (xs (s9.1 + (4:Int32)).toNatClampNeg) = 0 then
                                      kk184 (0:Int32)
                                    else
                                      kk184 (1:Int32))
                                else none
                              else none
                            else none
                          else none)
                        (fun (kk176 : Int32 → Option (Int32 × xM)) =>
                          if (xs (s9.1 + (4:Int32)).toNatClampNeg) = 0 then
                            kk176 (0:Int32)
                          else
                            kk176 (1:Int32))
                      else none
                    else none
                  else none
                else none
              else
              if x13 = 20 then
                if xinb (s9.1 + (1:Int32)) n then
                  if xinb (s9.1 + (2:Int32)) n then
                    (fX9_rain (xs (s9.1 + (1:Int32)).toNatClampNeg) (xs (s9.1 + (2:Int32)).toNatClampNeg) s9.2).bind fun q192 =>
                    if xinb (s9.1 + (1:Int32)) n then
                      if xinb (s9.1 + (2:Int32)) n then
                        (fX10_rain (xs (s9.1 + (1:Int32)).toNatClampNeg) (xs (s9.1 + (2:Int32)).toNatClampNeg) q192.2).bind fun q195 =>
                        if q192.1 = q195.1 then
                          kk10 ((s9.1 + 6), q195.2)
                        else
                          some ((0:Int32), q195.2)
                      else none
                    else none
                  else none
                else none
              else
              if x13 = 21 then
                if xinb (s9.1 + (1:Int32)) n then
                  if xinb (s9.1 + (2:Int32)) n then
                    (fX9_mean (xs (s9.1 + (1:Int32)).toNatClampNeg) (xs (s9.1 + (2:Int32)).toNatClampNeg) s9.2).bind fun q200 =>
                    if xinb (s9.1 + (1:Int32)) n then
                      if xinb (s9.1 + (2:Int32)) n then
                        (fX10_mean (xs (s9.1 + (1:Int32)).toNatClampNeg) (xs (s9.1 + (2:Int32)).toNatClampNeg) q200.2).bind fun q203 =>
                        if q200.1 = q203.1 then
                          kk10 ((s9.1 + 6), q203.2)
                        else
                          some ((0:Int32), q203.2)
                      else none
                    else none
                  else none
                else none
              else
              if x13 = 22 then
                if xinb (s9.1 + (1:Int32)) n then
                  if xinb (s9.1 + (2:Int32)) n then
                    (fX9_flow (xs (s9.1 + (1:Int32)).toNatClampNeg) (xs (s9.1 + (2:Int32)).toNatClampNeg) s9.2).bind fun q208 =>
                    if xinb (s9.1 + (1:Int32)) n then
                      if xinb (s9.1 + (2:Int32)) n then
                        (fX10_flow (xs (s9.1 + (1:Int32)).toNatClampNeg) (xs (s9.1 + (2:Int32)).toNatClampNeg) q208.2).bind fun q211 =>
                        if (lg_cmp q208.1 q211.1) = 0 then
                          kk10 ((s9.1 + 6), q211.2)
                        else
                          some ((0:Int32), q211.2)
                      else none
                    else none
                  else none
                else none
              else
              if x13 = 23 then
                if xinb (s9.1 + (1:Int32)) n then
                  if xinb (s9.1 + (2:Int32)) n then
                    if xinb (s9.1 + (3:Int32)) n then
                      (fX9_ahead (xs (s9.1 + (1:Int32)).toNatClampNeg) (((xs (s9.1 + (2:Int32)).toNatClampNeg).toInt64 <<< ((32:Int32).toInt64 &&& 63)) ||| ((xs (s9.1 + (3:Int32)).toNatClampNeg).toInt64 &&& (4294967295:Int64))) s9.2).bind fun q217 =>
                      if xinb (s9.1 + (1:Int32)) n then
                        if xinb (s9.1 + (2:Int32)) n then
                          if xinb (s9.1 + (3:Int32)) n then
                            (fX10_ahead (xs (s9.1 + (1:Int32)).toNatClampNeg) (((xs (s9.1 + (2:Int32)).toNatClampNeg).toInt64 <<< ((32:Int32).toInt64 &&& 63)) ||| ((xs (s9.1 + (3:Int32)).toNatClampNeg).toInt64 &&& (4294967295:Int64))) q217.2).bind fun q221 =>
                            if q217.1 = q221.1 then
                              kk10 ((s9.1 + 6), q221.2)
                            else
                              some ((0:Int32), q221.2)
                          else none
                        else none
                      else none
                    else none
                  else none
                else none
              else
              if x13 = 24 then
                if xinb (s9.1 + (1:Int32)) n then
                  if xinb (s9.1 + (2:Int32)) n then
                    if xinb (s9.1 + (3:Int32)) n then
                      (fX9_week (xs (s9.1 + (1:Int32)).toNatClampNeg) (xs (s9.1 + (2:Int32)).toNatClampNeg) (xs (s9.1 + (3:Int32)).toNatClampNeg) s9.2).bind fun q227 =>
                      if xinb (s9.1 + (1:Int32)) n then
                        if xinb (s9.1 + (2:Int32)) n then
                          if xinb (s9.1 + (3:Int32)) n then
                            (fX10_week (xs (s9.1 + (1:Int32)).toNatClampNeg) (xs (s9.1 + (2:Int32)).toNatClampNeg) (xs (s9.1 + (3:Int32)).toNatClampNeg) q227.2).bind fun q231 =>
                            if q227.1 = q231.1 then
                              kk10 ((s9.1 + 6), q231.2)
                            else
                              some ((0:Int32), q231.2)
                          else none
                        else none
                      else none
                    else none
                  else none
                else none
              else
              if x13 = 25 then
                if xinb (s9.1 + (1:Int32)) n then
                  (fX9_cleft (xs (s9.1 + (1:Int32)).toNatClampNeg) s9.2).bind fun q235 =>
                  if xinb (s9.1 + (1:Int32)) n then
                    (fX10_cleft (xs (s9.1 + (1:Int32)).toNatClampNeg) q235.2).bind fun q237 =>
                    if q235.1 = q237.1 then
                      kk10 ((s9.1 + 6), q237.2)
                    else
                      some ((0:Int32), q237.2)
                  else none
                else none
              else
              if x13 = 26 then
                if xinb (s9.1 + (1:Int32)) n then
                  if xinb (s9.1 + (2:Int32)) n then
                    (fX9_misses (xs (s9.1 + (1:Int32)).toNatClampNeg) (xs (s9.1 + (2:Int32)).toNatClampNeg) s9.2).bind fun q242 =>
                    if xinb (s9.1 + (1:Int32)) n then
                      if xinb (s9.1 + (2:Int32)) n then
                        (fX10_misses (xs (s9.1 + (1:Int32)).toNatClampNeg) (xs (s9.1 + (2:Int32)).toNatClampNeg) q242.2).bind fun q245 =>
                        if (lg_cmp q242.1 q245.1) = 0 then
                          kk10 ((s9.1 + 6), q245.2)
                        else
                          some ((0:Int32), q245.2)
                      else none
                    else none
                  else none
                else none
              else
              kk10 ((s9.1 + 6), s9.2)
            else none) xfu ((0:Int32), m7)
      else none
    else none
  else none

theorem wL_61 : Cond.classLink RL 7 RX9 ∈ xtb := xword 61 (by decide +kernel) rfl
theorem wL_696 : Cond.classLink RL 10 RX10 ∈ xtb := xword 696 (by decide +kernel) rfl
theorem wL_1002 : Cond.constantLong RL 113 4294967295 ∈ xtb := xword 1002 (by decide +kernel) rfl
set_option maxRecDepth 100000 in
set_option maxHeartbeats 8000000 in
theorem sp_law (nm : String) (n : Nat) (xs : Nat → Int32) (C : xPw) : SP (iL nm n xs) rIM 0 0 0 [some (.ref 203), none, none, none] [] (xwp C) (fL_law n xs C) := by
  unfold fL_law
  refine c_new (pc := 0) (kc := 0) (ks := 0) 0 xC9 wL_61 (xword 62 (by decide +kernel) rfl) (xword 48 (by decide +kernel) rfl) rfl (by decide) rfl (by decide +kernel) (Nat.le_of_ble_eq_true rfl) (Nat.le_of_ble_eq_true rfl) dL_law_0 ?_
  refine SP.bdp (fun m1 e2 => ?_)
  refine x_dup (pc := 3) dL_law_3 rfl ?_
  refine x_callI (pc := 4) (Iz := iX9_init) (ρz := rP) (kc := 1) (ks := 5) (kc' := 170) (ks' := 7755) (As := []) (rest := [(.ref 0)]) (ct_X9_init m1) rfl ml_L_9 miX9_init rfl ⟨prX9_init, (Nat.le_of_ble_eq_true rfl), (Nat.le_of_ble_eq_true rfl), (Nat.le_of_ble_eq_true rfl), (Nat.le_of_ble_eq_true rfl)⟩ (Nat.le_of_ble_eq_true rfl) rfl rfl dL_law_4 (fun q3 => ?_)
  dsimp only [xpush]
  refine x_astore_n (pc := 7) (L' := [some (.ref 203), some (.ref 0), none, none]) dL_law_7 (Nat.le_of_ble_eq_true rfl) rfl rfl ?_
  refine c_new (pc := 8) (kc := 170) (ks := 7755) 170 xC10 wL_696 (xword 697 (by decide +kernel) rfl) (xword 59 (by decide +kernel) rfl) rfl (by decide) rfl (by decide +kernel) (Nat.le_of_ble_eq_true rfl) (Nat.le_of_ble_eq_true rfl) dL_law_8 ?_
  refine SP.bdp (fun m4 e5 => ?_)
  refine x_dup (pc := 11) dL_law_11 rfl ?_
  refine x_callI (pc := 12) (Iz := iX10_init) (ρz := rP) (kc := 171) (ks := 7781) (kc' := 191) (ks' := 12705) (As := []) (rest := [(.ref 170)]) (ct_X10_init m4) rfl ml_L_12 miX10_init rfl ⟨prX10_init, (Nat.le_of_ble_eq_true rfl), (Nat.le_of_ble_eq_true rfl), (Nat.le_of_ble_eq_true rfl), (Nat.le_of_ble_eq_true rfl)⟩ (Nat.le_of_ble_eq_true rfl) rfl rfl dL_law_12 (fun q6 => ?_)
  dsimp only [xpush]
  refine x_astore_n (pc := 15) (L' := [some (.ref 203), some (.ref 0), some (.ref 170), none]) dL_law_15 (Nat.le_of_ble_eq_true rfl) rfl rfl ?_
  refine sp_made ?_
  refine SP.bdm (fun m7 e8 => ?_)
  refine x_iconst (pc := 16) (a := 0) dL_law_16 (by decide) ?_
  refine x_istore_n (pc := 17) (L' := [some (.ref 203), some (.ref 0), some (.ref 170), some (.int (0:Int32))]) dL_law_17 (Nat.le_of_ble_eq_true rfl) rfl rfl ?_
  refine SP.mask (pc := 18) [true, true, true, true] (L' := [some (.ref 203), some (.ref 0), some (.ref 170), some (.int (0:Int32))]) rfl ?_
  refine SP.lp (pc := 18) (fun (s9 : (Int32 × xM)) => [some (.ref 203), some (.ref 0), some (.ref 170), some (.int s9.1)]) (fun (s9 : (Int32 × xM)) => xwd s9.2) (fun s9 kk10 hkk10 => ?_) xfu ((0:Int32), m7)
  try dsimp only
  refine x_iload_n (pc := 18) dL_law_18 rfl ?_
  refine x_aload_n (pc := 19) dL_law_19 rfl ?_
  refine x_slen (pc := 20) rfl rfl dL_law_20 ?_
  refine x_bipush (pc := 21) (a := 6) dL_law_21 (by decide) ?_
  refine x_isub (pc := 23) dL_law_23 ?_
  refine x_icmp_gt (pc := 24) (tgt := 1141) dL_law_24 (by decide) (fun h11 => ?_) (fun h11 => ?_)
  · refine x_iconst (pc := 1141) (a := 1) dL_law_1141 (by decide) ?_
    exact x_zret (pc := 1142) rfl (by decide) rfl dL_law_1142 (Nat.le_of_ble_eq_true rfl) (Nat.le_of_ble_eq_true rfl)
  · refine x_aload_n (pc := 27) dL_law_27 rfl ?_
    refine x_iload_n (pc := 28) dL_law_28 rfl ?_
    refine x_sld (pc := 29) rfl dL_law_29 (fun hb12 => ?_)
    refine x_bipush (pc := 30) (a := 31) dL_law_30 (by decide) ?_
    refine x_iand (pc := 32) dL_law_32 ?_
    refine SP.bdi (fun x13 e14 => ?_)
    refine SP.ite (fun h15 => ?_) (fun h15 => ?_)
    · refine x_tsw_in (pc := 33) (tgt := 156) (off := 123) dL_law_33 (by rw [h15]; decide) (by rw [h15]; decide) (by rw [h15]; rfl) (by decide) ?_
      refine x_aload_n (pc := 156) dL_law_156 rfl ?_
      refine x_aload_n (pc := 157) dL_law_157 rfl ?_
      refine x_iload_n (pc := 158) dL_law_158 rfl ?_
      refine x_iconst (pc := 159) (a := 1) dL_law_159 (by decide) ?_
      refine x_iadd (pc := 160) dL_law_160 ?_
      refine x_sld (pc := 161) rfl dL_law_161 (fun hb16 => ?_)
      refine x_aload_n (pc := 162) dL_law_162 rfl ?_
      refine x_iload_n (pc := 163) dL_law_163 rfl ?_
      refine x_iconst (pc := 164) (a := 2) dL_law_164 (by decide) ?_
      refine x_iadd (pc := 165) dL_law_165 ?_
      refine x_sld (pc := 166) rfl dL_law_166 (fun hb17 => ?_)
      refine x_aload_n (pc := 167) dL_law_167 rfl ?_
      refine x_iload_n (pc := 168) dL_law_168 rfl ?_
      refine x_iconst (pc := 169) (a := 3) dL_law_169 (by decide) ?_
      refine x_iadd (pc := 170) dL_law_170 ?_
      refine x_sld (pc := 171) rfl dL_law_171 (fun hb18 => ?_)
      refine x_aload_n (pc := 172) dL_law_172 rfl ?_
      refine x_iload_n (pc := 173) dL_law_173 rfl ?_
      refine x_iconst (pc := 174) (a := 4) dL_law_174 (by decide) ?_
      refine x_iadd (pc := 175) dL_law_175 ?_
      refine x_sld (pc := 176) rfl dL_law_176 (fun hb19 => ?_)
      refine x_aload_n (pc := 177) dL_law_177 rfl ?_
      refine x_iload_n (pc := 178) dL_law_178 rfl ?_
      refine x_iconst (pc := 179) (a := 5) dL_law_179 (by decide) ?_
      refine x_iadd (pc := 180) dL_law_180 ?_
      refine x_sld (pc := 181) rfl dL_law_181 (fun hb20 => ?_)
      refine lV_IM (pc := 182) (As := [(.int (xs (s9.1 + (1:Int32)).toNatClampNeg)), (.int (xs (s9.1 + (2:Int32)).toNatClampNeg)), (.int (xs (s9.1 + (3:Int32)).toNatClampNeg)), (.int (xs (s9.1 + (4:Int32)).toNatClampNeg)), (.int (xs (s9.1 + (5:Int32)).toNatClampNeg))]) (rest := []) (ct_X9_put (xs (s9.1 + (1:Int32)).toNatClampNeg) (xs (s9.1 + (2:Int32)).toNatClampNeg) (xs (s9.1 + (3:Int32)).toNatClampNeg) (xs (s9.1 + (4:Int32)).toNatClampNeg) (xs (s9.1 + (5:Int32)).toNatClampNeg) s9.2) rfl xC9 rfl (by decide) ml_L_13 meX9_put rfl ⟨prX9_put, (Nat.le_of_ble_eq_true rfl), (Nat.le_of_ble_eq_true rfl), rfl, rfl⟩ (Nat.le_of_ble_eq_true rfl) (Nat.le_of_ble_eq_true rfl) (Nat.le_of_ble_eq_true rfl) dL_law_182 (fun q21 => ?_)
      refine x_aload_n (pc := 185) dL_law_185 rfl ?_
      refine x_aload_n (pc := 186) dL_law_186 rfl ?_
      refine x_iload_n (pc := 187) dL_law_187 rfl ?_
      refine x_iconst (pc := 188) (a := 1) dL_law_188 (by decide) ?_
      refine x_iadd (pc := 189) dL_law_189 ?_
      refine x_sld (pc := 190) rfl dL_law_190 (fun hb22 => ?_)
      refine x_aload_n (pc := 191) dL_law_191 rfl ?_
      refine x_iload_n (pc := 192) dL_law_192 rfl ?_
      refine x_iconst (pc := 193) (a := 2) dL_law_193 (by decide) ?_
      refine x_iadd (pc := 194) dL_law_194 ?_
      refine x_sld (pc := 195) rfl dL_law_195 (fun hb23 => ?_)
      refine x_aload_n (pc := 196) dL_law_196 rfl ?_
      refine x_iload_n (pc := 197) dL_law_197 rfl ?_
      refine x_iconst (pc := 198) (a := 3) dL_law_198 (by decide) ?_
      refine x_iadd (pc := 199) dL_law_199 ?_
      refine x_sld (pc := 200) rfl dL_law_200 (fun hb24 => ?_)
      refine x_aload_n (pc := 201) dL_law_201 rfl ?_
      refine x_iload_n (pc := 202) dL_law_202 rfl ?_
      refine x_iconst (pc := 203) (a := 4) dL_law_203 (by decide) ?_
      refine x_iadd (pc := 204) dL_law_204 ?_
      refine x_sld (pc := 205) rfl dL_law_205 (fun hb25 => ?_)
      refine x_aload_n (pc := 206) dL_law_206 rfl ?_
      refine x_iload_n (pc := 207) dL_law_207 rfl ?_
      refine x_iconst (pc := 208) (a := 5) dL_law_208 (by decide) ?_
      refine x_iadd (pc := 209) dL_law_209 ?_
      refine x_sld (pc := 210) rfl dL_law_210 (fun hb26 => ?_)
      refine lV_IM (pc := 211) (As := [(.int (xs (s9.1 + (1:Int32)).toNatClampNeg)), (.int (xs (s9.1 + (2:Int32)).toNatClampNeg)), (.int (xs (s9.1 + (3:Int32)).toNatClampNeg)), (.int (xs (s9.1 + (4:Int32)).toNatClampNeg)), (.int (xs (s9.1 + (5:Int32)).toNatClampNeg))]) (rest := [(.int q21.1)]) (ct_X10_put (xs (s9.1 + (1:Int32)).toNatClampNeg) (xs (s9.1 + (2:Int32)).toNatClampNeg) (xs (s9.1 + (3:Int32)).toNatClampNeg) (xs (s9.1 + (4:Int32)).toNatClampNeg) (xs (s9.1 + (5:Int32)).toNatClampNeg) q21.2) rfl xC10 rfl (by decide) ml_L_17 meX10_put rfl ⟨prX10_put, (Nat.le_of_ble_eq_true rfl), (Nat.le_of_ble_eq_true rfl), rfl, rfl⟩ (Nat.le_of_ble_eq_true rfl) (Nat.le_of_ble_eq_true rfl) (Nat.le_of_ble_eq_true rfl) dL_law_211 (fun q27 => ?_)
      refine x_icmp_eq (pc := 214) (tgt := 1135) dL_law_214 (by decide) (fun h28 => ?_) (fun h28 => ?_)
      · refine x_iinc (pc := 1135) (b := (s9.1 + 6)) (L' := [some (.ref 203), some (.ref 0), some (.ref 170), some (.int (s9.1 + 6))]) dL_law_1135 rfl rfl (Nat.le_of_ble_eq_true rfl) rfl rfl ?_
        refine x_goto (pc := 1138) (tgt := 18) dL_law_1138 (by decide) ?_
        have hz := hkk10 ((s9.1 + 6), q27.2)
        try dsimp only at hz
        exact hz
      · refine x_iconst (pc := 217) (a := 0) dL_law_217 (by decide) ?_
        exact x_zret (pc := 218) rfl (by decide) rfl dL_law_218 (Nat.le_of_ble_eq_true rfl) (Nat.le_of_ble_eq_true rfl)
    refine SP.ite (fun h29 => ?_) (fun h29 => ?_)
    · refine x_tsw_in (pc := 33) (tgt := 219) (off := 186) dL_law_33 (by rw [h29]; decide) (by rw [h29]; decide) (by rw [h29]; rfl) (by decide) ?_
      refine x_aload_n (pc := 219) dL_law_219 rfl ?_
      refine x_aload_n (pc := 220) dL_law_220 rfl ?_
      refine x_iload_n (pc := 221) dL_law_221 rfl ?_
      refine x_iconst (pc := 222) (a := 1) dL_law_222 (by decide) ?_
      refine x_iadd (pc := 223) dL_law_223 ?_
      refine x_sld (pc := 224) rfl dL_law_224 (fun hb30 => ?_)
      refine lV_IM (pc := 225) (As := [(.int (xs (s9.1 + (1:Int32)).toNatClampNeg))]) (rest := []) (ct_X9_lift (xs (s9.1 + (1:Int32)).toNatClampNeg) s9.2) rfl xC9 rfl (by decide) ml_L_18 meX9_lift rfl ⟨prX9_lift, (Nat.le_of_ble_eq_true rfl), (Nat.le_of_ble_eq_true rfl), rfl, rfl⟩ (Nat.le_of_ble_eq_true rfl) (Nat.le_of_ble_eq_true rfl) (Nat.le_of_ble_eq_true rfl) dL_law_225 (fun q31 => ?_)
      refine x_aload_n (pc := 228) dL_law_228 rfl ?_
      refine x_aload_n (pc := 229) dL_law_229 rfl ?_
      refine x_iload_n (pc := 230) dL_law_230 rfl ?_
      refine x_iconst (pc := 231) (a := 1) dL_law_231 (by decide) ?_
      refine x_iadd (pc := 232) dL_law_232 ?_
      refine x_sld (pc := 233) rfl dL_law_233 (fun hb32 => ?_)
      refine lV_IM (pc := 234) (As := [(.int (xs (s9.1 + (1:Int32)).toNatClampNeg))]) (rest := [(.int q31.1)]) (ct_X10_lift (xs (s9.1 + (1:Int32)).toNatClampNeg) q31.2) rfl xC10 rfl (by decide) ml_L_22 meX10_lift rfl ⟨prX10_lift, (Nat.le_of_ble_eq_true rfl), (Nat.le_of_ble_eq_true rfl), rfl, rfl⟩ (Nat.le_of_ble_eq_true rfl) (Nat.le_of_ble_eq_true rfl) (Nat.le_of_ble_eq_true rfl) dL_law_234 (fun q33 => ?_)
      refine x_icmp_eq (pc := 237) (tgt := 1135) dL_law_237 (by decide) (fun h34 => ?_) (fun h34 => ?_)
      · refine x_iinc (pc := 1135) (b := (s9.1 + 6)) (L' := [some (.ref 203), some (.ref 0), some (.ref 170), some (.int (s9.1 + 6))]) dL_law_1135 rfl rfl (Nat.le_of_ble_eq_true rfl) rfl rfl ?_
        refine x_goto (pc := 1138) (tgt := 18) dL_law_1138 (by decide) ?_
        have hz := hkk10 ((s9.1 + 6), q33.2)
        try dsimp only at hz
        exact hz
      · refine x_iconst (pc := 240) (a := 0) dL_law_240 (by decide) ?_
        exact x_zret (pc := 241) rfl (by decide) rfl dL_law_241 (Nat.le_of_ble_eq_true rfl) (Nat.le_of_ble_eq_true rfl)
    refine SP.ite (fun h35 => ?_) (fun h35 => ?_)
    · refine x_tsw_in (pc := 33) (tgt := 242) (off := 209) dL_law_33 (by rw [h35]; decide) (by rw [h35]; decide) (by rw [h35]; rfl) (by decide) ?_
      refine x_aload_n (pc := 242) dL_law_242 rfl ?_
      refine x_aload_n (pc := 243) dL_law_243 rfl ?_
      refine x_iload_n (pc := 244) dL_law_244 rfl ?_
      refine x_iconst (pc := 245) (a := 1) dL_law_245 (by decide) ?_
      refine x_iadd (pc := 246) dL_law_246 ?_
      refine x_sld (pc := 247) rfl dL_law_247 (fun hb36 => ?_)
      refine x_aload_n (pc := 248) dL_law_248 rfl ?_
      refine x_iload_n (pc := 249) dL_law_249 rfl ?_
      refine x_iconst (pc := 250) (a := 2) dL_law_250 (by decide) ?_
      refine x_iadd (pc := 251) dL_law_251 ?_
      refine x_sld (pc := 252) rfl dL_law_252 (fun hb37 => ?_)
      refine lV_I (pc := 253) (As := [(.int (xs (s9.1 + (1:Int32)).toNatClampNeg)), (.int (xs (s9.1 + (2:Int32)).toNatClampNeg))]) (rest := []) (ct_X9_look (xs (s9.1 + (1:Int32)).toNatClampNeg) (xs (s9.1 + (2:Int32)).toNatClampNeg) s9.2) rfl xC9 rfl (by decide) ml_L_23 meX9_look rfl ⟨prX9_look, (Nat.le_of_ble_eq_true rfl), (Nat.le_of_ble_eq_true rfl), rfl, rfl⟩ (Nat.le_of_ble_eq_true rfl) (Nat.le_of_ble_eq_true rfl) (Nat.le_of_ble_eq_true rfl) dL_law_253 (fun v38 => ?_)
      refine x_aload_n (pc := 256) dL_law_256 rfl ?_
      refine x_aload_n (pc := 257) dL_law_257 rfl ?_
      refine x_iload_n (pc := 258) dL_law_258 rfl ?_
      refine x_iconst (pc := 259) (a := 1) dL_law_259 (by decide) ?_
      refine x_iadd (pc := 260) dL_law_260 ?_
      refine x_sld (pc := 261) rfl dL_law_261 (fun hb39 => ?_)
      refine x_aload_n (pc := 262) dL_law_262 rfl ?_
      refine x_iload_n (pc := 263) dL_law_263 rfl ?_
      refine x_iconst (pc := 264) (a := 2) dL_law_264 (by decide) ?_
      refine x_iadd (pc := 265) dL_law_265 ?_
      refine x_sld (pc := 266) rfl dL_law_266 (fun hb40 => ?_)
      refine lV_I (pc := 267) (As := [(.int (xs (s9.1 + (1:Int32)).toNatClampNeg)), (.int (xs (s9.1 + (2:Int32)).toNatClampNeg))]) (rest := [(.int v38)]) (ct_X10_look (xs (s9.1 + (1:Int32)).toNatClampNeg) (xs (s9.1 + (2:Int32)).toNatClampNeg) s9.2) rfl xC10 rfl (by decide) ml_L_27 meX10_look rfl ⟨prX10_look, (Nat.le_of_ble_eq_true rfl), (Nat.le_of_ble_eq_true rfl), rfl, rfl⟩ (Nat.le_of_ble_eq_true rfl) (Nat.le_of_ble_eq_true rfl) (Nat.le_of_ble_eq_true rfl) dL_law_267 (fun v41 => ?_)
      refine x_icmp_eq (pc := 270) (tgt := 1135) dL_law_270 (by decide) (fun h42 => ?_) (fun h42 => ?_)
      · refine x_iinc (pc := 1135) (b := (s9.1 + 6)) (L' := [some (.ref 203), some (.ref 0), some (.ref 170), some (.int (s9.1 + 6))]) dL_law_1135 rfl rfl (Nat.le_of_ble_eq_true rfl) rfl rfl ?_
        refine x_goto (pc := 1138) (tgt := 18) dL_law_1138 (by decide) ?_
        have hz := hkk10 ((s9.1 + 6), s9.2)
        try dsimp only at hz
        exact hz
      · refine x_iconst (pc := 273) (a := 0) dL_law_273 (by decide) ?_
        exact x_zret (pc := 274) rfl (by decide) rfl dL_law_274 (Nat.le_of_ble_eq_true rfl) (Nat.le_of_ble_eq_true rfl)
    refine SP.ite (fun h43 => ?_) (fun h43 => ?_)
    · refine x_tsw_in (pc := 33) (tgt := 275) (off := 242) dL_law_33 (by rw [h43]; decide) (by rw [h43]; decide) (by rw [h43]; rfl) (by decide) ?_
      refine x_aload_n (pc := 275) dL_law_275 rfl ?_
      refine x_aload_n (pc := 276) dL_law_276 rfl ?_
      refine x_iload_n (pc := 277) dL_law_277 rfl ?_
      refine x_iconst (pc := 278) (a := 1) dL_law_278 (by decide) ?_
      refine x_iadd (pc := 279) dL_law_279 ?_
      refine x_sld (pc := 280) rfl dL_law_280 (fun hb44 => ?_)
      refine x_aload_n (pc := 281) dL_law_281 rfl ?_
      refine x_iload_n (pc := 282) dL_law_282 rfl ?_
      refine x_iconst (pc := 283) (a := 2) dL_law_283 (by decide) ?_
      refine x_iadd (pc := 284) dL_law_284 ?_
      refine x_sld (pc := 285) rfl dL_law_285 (fun hb45 => ?_)
      refine lV_IM (pc := 286) (As := [(.int (xs (s9.1 + (1:Int32)).toNatClampNeg)), (.int (xs (s9.1 + (2:Int32)).toNatClampNeg))]) (rest := []) (ct_X9_read (xs (s9.1 + (1:Int32)).toNatClampNeg) (xs (s9.1 + (2:Int32)).toNatClampNeg) s9.2) rfl xC9 rfl (by decide) ml_L_28 meX9_read rfl ⟨prX9_read, (Nat.le_of_ble_eq_true rfl), (Nat.le_of_ble_eq_true rfl), rfl, rfl⟩ (Nat.le_of_ble_eq_true rfl) (Nat.le_of_ble_eq_true rfl) (Nat.le_of_ble_eq_true rfl) dL_law_286 (fun q46 => ?_)
      refine x_aload_n (pc := 289) dL_law_289 rfl ?_
      refine x_aload_n (pc := 290) dL_law_290 rfl ?_
      refine x_iload_n (pc := 291) dL_law_291 rfl ?_
      refine x_iconst (pc := 292) (a := 1) dL_law_292 (by decide) ?_
      refine x_iadd (pc := 293) dL_law_293 ?_
      refine x_sld (pc := 294) rfl dL_law_294 (fun hb47 => ?_)
      refine x_aload_n (pc := 295) dL_law_295 rfl ?_
      refine x_iload_n (pc := 296) dL_law_296 rfl ?_
      refine x_iconst (pc := 297) (a := 2) dL_law_297 (by decide) ?_
      refine x_iadd (pc := 298) dL_law_298 ?_
      refine x_sld (pc := 299) rfl dL_law_299 (fun hb48 => ?_)
      refine lV_IM (pc := 300) (As := [(.int (xs (s9.1 + (1:Int32)).toNatClampNeg)), (.int (xs (s9.1 + (2:Int32)).toNatClampNeg))]) (rest := [(.int q46.1)]) (ct_X10_read (xs (s9.1 + (1:Int32)).toNatClampNeg) (xs (s9.1 + (2:Int32)).toNatClampNeg) q46.2) rfl xC10 rfl (by decide) ml_L_31 meX10_read rfl ⟨prX10_read, (Nat.le_of_ble_eq_true rfl), (Nat.le_of_ble_eq_true rfl), rfl, rfl⟩ (Nat.le_of_ble_eq_true rfl) (Nat.le_of_ble_eq_true rfl) (Nat.le_of_ble_eq_true rfl) dL_law_300 (fun q49 => ?_)
      refine x_icmp_eq (pc := 303) (tgt := 1135) dL_law_303 (by decide) (fun h50 => ?_) (fun h50 => ?_)
      · refine x_iinc (pc := 1135) (b := (s9.1 + 6)) (L' := [some (.ref 203), some (.ref 0), some (.ref 170), some (.int (s9.1 + 6))]) dL_law_1135 rfl rfl (Nat.le_of_ble_eq_true rfl) rfl rfl ?_
        refine x_goto (pc := 1138) (tgt := 18) dL_law_1138 (by decide) ?_
        have hz := hkk10 ((s9.1 + 6), q49.2)
        try dsimp only at hz
        exact hz
      · refine x_iconst (pc := 306) (a := 0) dL_law_306 (by decide) ?_
        exact x_zret (pc := 307) rfl (by decide) rfl dL_law_307 (Nat.le_of_ble_eq_true rfl) (Nat.le_of_ble_eq_true rfl)
    refine SP.ite (fun h51 => ?_) (fun h51 => ?_)
    · refine x_tsw_in (pc := 33) (tgt := 308) (off := 275) dL_law_33 (by rw [h51]; decide) (by rw [h51]; decide) (by rw [h51]; rfl) (by decide) ?_
      refine x_aload_n (pc := 308) dL_law_308 rfl ?_
      refine x_aload_n (pc := 309) dL_law_309 rfl ?_
      refine x_iload_n (pc := 310) dL_law_310 rfl ?_
      refine x_iconst (pc := 311) (a := 1) dL_law_311 (by decide) ?_
      refine x_iadd (pc := 312) dL_law_312 ?_
      refine x_sld (pc := 313) rfl dL_law_313 (fun hb52 => ?_)
      refine x_aload_n (pc := 314) dL_law_314 rfl ?_
      refine x_iload_n (pc := 315) dL_law_315 rfl ?_
      refine x_iconst (pc := 316) (a := 2) dL_law_316 (by decide) ?_
      refine x_iadd (pc := 317) dL_law_317 ?_
      refine x_sld (pc := 318) rfl dL_law_318 (fun hb53 => ?_)
      refine lV_IM (pc := 319) (As := [(.int (xs (s9.1 + (1:Int32)).toNatClampNeg)), (.int (xs (s9.1 + (2:Int32)).toNatClampNeg))]) (rest := []) (ct_X9_full (xs (s9.1 + (1:Int32)).toNatClampNeg) (xs (s9.1 + (2:Int32)).toNatClampNeg) s9.2) rfl xC9 rfl (by decide) ml_L_32 meX9_full rfl ⟨prX9_full, (Nat.le_of_ble_eq_true rfl), (Nat.le_of_ble_eq_true rfl), rfl, rfl⟩ (Nat.le_of_ble_eq_true rfl) (Nat.le_of_ble_eq_true rfl) (Nat.le_of_ble_eq_true rfl) dL_law_319 (fun q54 => ?_)
      refine x_aload_n (pc := 322) dL_law_322 rfl ?_
      refine x_aload_n (pc := 323) dL_law_323 rfl ?_
      refine x_iload_n (pc := 324) dL_law_324 rfl ?_
      refine x_iconst (pc := 325) (a := 1) dL_law_325 (by decide) ?_
      refine x_iadd (pc := 326) dL_law_326 ?_
      refine x_sld (pc := 327) rfl dL_law_327 (fun hb55 => ?_)
      refine x_aload_n (pc := 328) dL_law_328 rfl ?_
      refine x_iload_n (pc := 329) dL_law_329 rfl ?_
      refine x_iconst (pc := 330) (a := 2) dL_law_330 (by decide) ?_
      refine x_iadd (pc := 331) dL_law_331 ?_
      refine x_sld (pc := 332) rfl dL_law_332 (fun hb56 => ?_)
      refine lV_IM (pc := 333) (As := [(.int (xs (s9.1 + (1:Int32)).toNatClampNeg)), (.int (xs (s9.1 + (2:Int32)).toNatClampNeg))]) (rest := [(.int q54.1)]) (ct_X10_full (xs (s9.1 + (1:Int32)).toNatClampNeg) (xs (s9.1 + (2:Int32)).toNatClampNeg) q54.2) rfl xC10 rfl (by decide) ml_L_35 meX10_full rfl ⟨prX10_full, (Nat.le_of_ble_eq_true rfl), (Nat.le_of_ble_eq_true rfl), rfl, rfl⟩ (Nat.le_of_ble_eq_true rfl) (Nat.le_of_ble_eq_true rfl) (Nat.le_of_ble_eq_true rfl) dL_law_333 (fun q57 => ?_)
      refine x_icmp_eq (pc := 336) (tgt := 1135) dL_law_336 (by decide) (fun h58 => ?_) (fun h58 => ?_)
      · refine x_iinc (pc := 1135) (b := (s9.1 + 6)) (L' := [some (.ref 203), some (.ref 0), some (.ref 170), some (.int (s9.1 + 6))]) dL_law_1135 rfl rfl (Nat.le_of_ble_eq_true rfl) rfl rfl ?_
        refine x_goto (pc := 1138) (tgt := 18) dL_law_1138 (by decide) ?_
        have hz := hkk10 ((s9.1 + 6), q57.2)
        try dsimp only at hz
        exact hz
      · refine x_iconst (pc := 339) (a := 0) dL_law_339 (by decide) ?_
        exact x_zret (pc := 340) rfl (by decide) rfl dL_law_340 (Nat.le_of_ble_eq_true rfl) (Nat.le_of_ble_eq_true rfl)
    refine SP.ite (fun h59 => ?_) (fun h59 => ?_)
    · refine x_tsw_in (pc := 33) (tgt := 341) (off := 308) dL_law_33 (by rw [h59]; decide) (by rw [h59]; decide) (by rw [h59]; rfl) (by decide) ?_
      refine x_aload_n (pc := 341) dL_law_341 rfl ?_
      refine x_aload_n (pc := 342) dL_law_342 rfl ?_
      refine x_iload_n (pc := 343) dL_law_343 rfl ?_
      refine x_iconst (pc := 344) (a := 1) dL_law_344 (by decide) ?_
      refine x_iadd (pc := 345) dL_law_345 ?_
      refine x_sld (pc := 346) rfl dL_law_346 (fun hb60 => ?_)
      refine x_aload_n (pc := 347) dL_law_347 rfl ?_
      refine x_iload_n (pc := 348) dL_law_348 rfl ?_
      refine x_iconst (pc := 349) (a := 2) dL_law_349 (by decide) ?_
      refine x_iadd (pc := 350) dL_law_350 ?_
      refine x_sld (pc := 351) rfl dL_law_351 (fun hb61 => ?_)
      refine lV_IM (pc := 352) (As := [(.int (xs (s9.1 + (1:Int32)).toNatClampNeg)), (.int (xs (s9.1 + (2:Int32)).toNatClampNeg))]) (rest := []) (ct_X9_melt (xs (s9.1 + (1:Int32)).toNatClampNeg) (xs (s9.1 + (2:Int32)).toNatClampNeg) s9.2) rfl xC9 rfl (by decide) ml_L_36 meX9_melt rfl ⟨prX9_melt, (Nat.le_of_ble_eq_true rfl), (Nat.le_of_ble_eq_true rfl), rfl, rfl⟩ (Nat.le_of_ble_eq_true rfl) (Nat.le_of_ble_eq_true rfl) (Nat.le_of_ble_eq_true rfl) dL_law_352 (fun q62 => ?_)
      refine x_aload_n (pc := 355) dL_law_355 rfl ?_
      refine x_aload_n (pc := 356) dL_law_356 rfl ?_
      refine x_iload_n (pc := 357) dL_law_357 rfl ?_
      refine x_iconst (pc := 358) (a := 1) dL_law_358 (by decide) ?_
      refine x_iadd (pc := 359) dL_law_359 ?_
      refine x_sld (pc := 360) rfl dL_law_360 (fun hb63 => ?_)
      refine x_aload_n (pc := 361) dL_law_361 rfl ?_
      refine x_iload_n (pc := 362) dL_law_362 rfl ?_
      refine x_iconst (pc := 363) (a := 2) dL_law_363 (by decide) ?_
      refine x_iadd (pc := 364) dL_law_364 ?_
      refine x_sld (pc := 365) rfl dL_law_365 (fun hb64 => ?_)
      refine lV_IM (pc := 366) (As := [(.int (xs (s9.1 + (1:Int32)).toNatClampNeg)), (.int (xs (s9.1 + (2:Int32)).toNatClampNeg))]) (rest := [(.int q62.1)]) (ct_X10_melt (xs (s9.1 + (1:Int32)).toNatClampNeg) (xs (s9.1 + (2:Int32)).toNatClampNeg) q62.2) rfl xC10 rfl (by decide) ml_L_39 meX10_melt rfl ⟨prX10_melt, (Nat.le_of_ble_eq_true rfl), (Nat.le_of_ble_eq_true rfl), rfl, rfl⟩ (Nat.le_of_ble_eq_true rfl) (Nat.le_of_ble_eq_true rfl) (Nat.le_of_ble_eq_true rfl) dL_law_366 (fun q65 => ?_)
      refine x_icmp_eq (pc := 369) (tgt := 1135) dL_law_369 (by decide) (fun h66 => ?_) (fun h66 => ?_)
      · refine x_iinc (pc := 1135) (b := (s9.1 + 6)) (L' := [some (.ref 203), some (.ref 0), some (.ref 170), some (.int (s9.1 + 6))]) dL_law_1135 rfl rfl (Nat.le_of_ble_eq_true rfl) rfl rfl ?_
        refine x_goto (pc := 1138) (tgt := 18) dL_law_1138 (by decide) ?_
        have hz := hkk10 ((s9.1 + 6), q65.2)
        try dsimp only at hz
        exact hz
      · refine x_iconst (pc := 372) (a := 0) dL_law_372 (by decide) ?_
        exact x_zret (pc := 373) rfl (by decide) rfl dL_law_373 (Nat.le_of_ble_eq_true rfl) (Nat.le_of_ble_eq_true rfl)
    refine SP.ite (fun h67 => ?_) (fun h67 => ?_)
    · refine x_tsw_in (pc := 33) (tgt := 374) (off := 341) dL_law_33 (by rw [h67]; decide) (by rw [h67]; decide) (by rw [h67]; rfl) (by decide) ?_
      refine x_aload_n (pc := 374) dL_law_374 rfl ?_
      refine x_aload_n (pc := 375) dL_law_375 rfl ?_
      refine x_iload_n (pc := 376) dL_law_376 rfl ?_
      refine x_iconst (pc := 377) (a := 1) dL_law_377 (by decide) ?_
      refine x_iadd (pc := 378) dL_law_378 ?_
      refine x_sld (pc := 379) rfl dL_law_379 (fun hb68 => ?_)
      refine x_aload_n (pc := 380) dL_law_380 rfl ?_
      refine x_iload_n (pc := 381) dL_law_381 rfl ?_
      refine x_iconst (pc := 382) (a := 2) dL_law_382 (by decide) ?_
      refine x_iadd (pc := 383) dL_law_383 ?_
      refine x_sld (pc := 384) rfl dL_law_384 (fun hb69 => ?_)
      refine lV_IM (pc := 385) (As := [(.int (xs (s9.1 + (1:Int32)).toNatClampNeg)), (.int (xs (s9.1 + (2:Int32)).toNatClampNeg))]) (rest := []) (ct_X9_other (xs (s9.1 + (1:Int32)).toNatClampNeg) (xs (s9.1 + (2:Int32)).toNatClampNeg) s9.2) rfl xC9 rfl (by decide) ml_L_40 meX9_other rfl ⟨prX9_other, (Nat.le_of_ble_eq_true rfl), (Nat.le_of_ble_eq_true rfl), rfl, rfl⟩ (Nat.le_of_ble_eq_true rfl) (Nat.le_of_ble_eq_true rfl) (Nat.le_of_ble_eq_true rfl) dL_law_385 (fun q70 => ?_)
      refine x_aload_n (pc := 388) dL_law_388 rfl ?_
      refine x_aload_n (pc := 389) dL_law_389 rfl ?_
      refine x_iload_n (pc := 390) dL_law_390 rfl ?_
      refine x_iconst (pc := 391) (a := 1) dL_law_391 (by decide) ?_
      refine x_iadd (pc := 392) dL_law_392 ?_
      refine x_sld (pc := 393) rfl dL_law_393 (fun hb71 => ?_)
      refine x_aload_n (pc := 394) dL_law_394 rfl ?_
      refine x_iload_n (pc := 395) dL_law_395 rfl ?_
      refine x_iconst (pc := 396) (a := 2) dL_law_396 (by decide) ?_
      refine x_iadd (pc := 397) dL_law_397 ?_
      refine x_sld (pc := 398) rfl dL_law_398 (fun hb72 => ?_)
      refine lV_IM (pc := 399) (As := [(.int (xs (s9.1 + (1:Int32)).toNatClampNeg)), (.int (xs (s9.1 + (2:Int32)).toNatClampNeg))]) (rest := [(.int q70.1)]) (ct_X10_other (xs (s9.1 + (1:Int32)).toNatClampNeg) (xs (s9.1 + (2:Int32)).toNatClampNeg) q70.2) rfl xC10 rfl (by decide) ml_L_43 meX10_other rfl ⟨prX10_other, (Nat.le_of_ble_eq_true rfl), (Nat.le_of_ble_eq_true rfl), rfl, rfl⟩ (Nat.le_of_ble_eq_true rfl) (Nat.le_of_ble_eq_true rfl) (Nat.le_of_ble_eq_true rfl) dL_law_399 (fun q73 => ?_)
      refine x_icmp_eq (pc := 402) (tgt := 1135) dL_law_402 (by decide) (fun h74 => ?_) (fun h74 => ?_)
      · refine x_iinc (pc := 1135) (b := (s9.1 + 6)) (L' := [some (.ref 203), some (.ref 0), some (.ref 170), some (.int (s9.1 + 6))]) dL_law_1135 rfl rfl (Nat.le_of_ble_eq_true rfl) rfl rfl ?_
        refine x_goto (pc := 1138) (tgt := 18) dL_law_1138 (by decide) ?_
        have hz := hkk10 ((s9.1 + 6), q73.2)
        try dsimp only at hz
        exact hz
      · refine x_iconst (pc := 405) (a := 0) dL_law_405 (by decide) ?_
        exact x_zret (pc := 406) rfl (by decide) rfl dL_law_406 (Nat.le_of_ble_eq_true rfl) (Nat.le_of_ble_eq_true rfl)
    refine SP.ite (fun h75 => ?_) (fun h75 => ?_)
    · refine x_tsw_in (pc := 33) (tgt := 407) (off := 374) dL_law_33 (by rw [h75]; decide) (by rw [h75]; decide) (by rw [h75]; rfl) (by decide) ?_
      refine x_aload_n (pc := 407) dL_law_407 rfl ?_
      refine x_aload_n (pc := 408) dL_law_408 rfl ?_
      refine x_iload_n (pc := 409) dL_law_409 rfl ?_
      refine x_iconst (pc := 410) (a := 1) dL_law_410 (by decide) ?_
      refine x_iadd (pc := 411) dL_law_411 ?_
      refine x_sld (pc := 412) rfl dL_law_412 (fun hb76 => ?_)
      refine x_aload_n (pc := 413) dL_law_413 rfl ?_
      refine x_iload_n (pc := 414) dL_law_414 rfl ?_
      refine x_iconst (pc := 415) (a := 2) dL_law_415 (by decide) ?_
      refine x_iadd (pc := 416) dL_law_416 ?_
      refine x_sld (pc := 417) rfl dL_law_417 (fun hb77 => ?_)
      refine x_aload_n (pc := 418) dL_law_418 rfl ?_
      refine x_iload_n (pc := 419) dL_law_419 rfl ?_
      refine x_iconst (pc := 420) (a := 3) dL_law_420 (by decide) ?_
      refine x_iadd (pc := 421) dL_law_421 ?_
      refine x_sld (pc := 422) rfl dL_law_422 (fun hb78 => ?_)
      refine lV_IM (pc := 423) (As := [(.int (xs (s9.1 + (1:Int32)).toNatClampNeg)), (.int (xs (s9.1 + (2:Int32)).toNatClampNeg)), (.int (xs (s9.1 + (3:Int32)).toNatClampNeg))]) (rest := []) (ct_X9_hand (xs (s9.1 + (1:Int32)).toNatClampNeg) (xs (s9.1 + (2:Int32)).toNatClampNeg) (xs (s9.1 + (3:Int32)).toNatClampNeg) s9.2) rfl xC9 rfl (by decide) ml_L_44 meX9_hand rfl ⟨prX9_hand, (Nat.le_of_ble_eq_true rfl), (Nat.le_of_ble_eq_true rfl), rfl, rfl⟩ (Nat.le_of_ble_eq_true rfl) (Nat.le_of_ble_eq_true rfl) (Nat.le_of_ble_eq_true rfl) dL_law_423 (fun q79 => ?_)
      refine x_aload_n (pc := 426) dL_law_426 rfl ?_
      refine x_aload_n (pc := 427) dL_law_427 rfl ?_
      refine x_iload_n (pc := 428) dL_law_428 rfl ?_
      refine x_iconst (pc := 429) (a := 1) dL_law_429 (by decide) ?_
      refine x_iadd (pc := 430) dL_law_430 ?_
      refine x_sld (pc := 431) rfl dL_law_431 (fun hb80 => ?_)
      refine x_aload_n (pc := 432) dL_law_432 rfl ?_
      refine x_iload_n (pc := 433) dL_law_433 rfl ?_
      refine x_iconst (pc := 434) (a := 2) dL_law_434 (by decide) ?_
      refine x_iadd (pc := 435) dL_law_435 ?_
      refine x_sld (pc := 436) rfl dL_law_436 (fun hb81 => ?_)
      refine x_aload_n (pc := 437) dL_law_437 rfl ?_
      refine x_iload_n (pc := 438) dL_law_438 rfl ?_
      refine x_iconst (pc := 439) (a := 3) dL_law_439 (by decide) ?_
      refine x_iadd (pc := 440) dL_law_440 ?_
      refine x_sld (pc := 441) rfl dL_law_441 (fun hb82 => ?_)
      refine lV_IM (pc := 442) (As := [(.int (xs (s9.1 + (1:Int32)).toNatClampNeg)), (.int (xs (s9.1 + (2:Int32)).toNatClampNeg)), (.int (xs (s9.1 + (3:Int32)).toNatClampNeg))]) (rest := [(.int q79.1)]) (ct_X10_hand (xs (s9.1 + (1:Int32)).toNatClampNeg) (xs (s9.1 + (2:Int32)).toNatClampNeg) (xs (s9.1 + (3:Int32)).toNatClampNeg) q79.2) rfl xC10 rfl (by decide) ml_L_48 meX10_hand rfl ⟨prX10_hand, (Nat.le_of_ble_eq_true rfl), (Nat.le_of_ble_eq_true rfl), rfl, rfl⟩ (Nat.le_of_ble_eq_true rfl) (Nat.le_of_ble_eq_true rfl) (Nat.le_of_ble_eq_true rfl) dL_law_442 (fun q83 => ?_)
      refine x_icmp_eq (pc := 445) (tgt := 1135) dL_law_445 (by decide) (fun h84 => ?_) (fun h84 => ?_)
      · refine x_iinc (pc := 1135) (b := (s9.1 + 6)) (L' := [some (.ref 203), some (.ref 0), some (.ref 170), some (.int (s9.1 + 6))]) dL_law_1135 rfl rfl (Nat.le_of_ble_eq_true rfl) rfl rfl ?_
        refine x_goto (pc := 1138) (tgt := 18) dL_law_1138 (by decide) ?_
        have hz := hkk10 ((s9.1 + 6), q83.2)
        try dsimp only at hz
        exact hz
      · refine x_iconst (pc := 448) (a := 0) dL_law_448 (by decide) ?_
        exact x_zret (pc := 449) rfl (by decide) rfl dL_law_449 (Nat.le_of_ble_eq_true rfl) (Nat.le_of_ble_eq_true rfl)
    refine SP.ite (fun h85 => ?_) (fun h85 => ?_)
    · refine x_tsw_in (pc := 33) (tgt := 450) (off := 417) dL_law_33 (by rw [h85]; decide) (by rw [h85]; decide) (by rw [h85]; rfl) (by decide) ?_
      refine x_aload_n (pc := 450) dL_law_450 rfl ?_
      refine lV_IM (pc := 451) (As := []) (rest := []) (ct_X9_close s9.2) rfl xC9 rfl (by decide) ml_L_49 meX9_close rfl ⟨prX9_close, (Nat.le_of_ble_eq_true rfl), (Nat.le_of_ble_eq_true rfl), rfl, rfl⟩ (Nat.le_of_ble_eq_true rfl) (Nat.le_of_ble_eq_true rfl) (Nat.le_of_ble_eq_true rfl) dL_law_451 (fun q86 => ?_)
      refine x_aload_n (pc := 454) dL_law_454 rfl ?_
      refine lV_IM (pc := 455) (As := []) (rest := [(.int q86.1)]) (ct_X10_close q86.2) rfl xC10 rfl (by decide) ml_L_53 meX10_close rfl ⟨prX10_close, (Nat.le_of_ble_eq_true rfl), (Nat.le_of_ble_eq_true rfl), rfl, rfl⟩ (Nat.le_of_ble_eq_true rfl) (Nat.le_of_ble_eq_true rfl) (Nat.le_of_ble_eq_true rfl) dL_law_455 (fun q87 => ?_)
      refine x_icmp_eq (pc := 458) (tgt := 1135) dL_law_458 (by decide) (fun h88 => ?_) (fun h88 => ?_)
      · refine x_iinc (pc := 1135) (b := (s9.1 + 6)) (L' := [some (.ref 203), some (.ref 0), some (.ref 170), some (.int (s9.1 + 6))]) dL_law_1135 rfl rfl (Nat.le_of_ble_eq_true rfl) rfl rfl ?_
        refine x_goto (pc := 1138) (tgt := 18) dL_law_1138 (by decide) ?_
        have hz := hkk10 ((s9.1 + 6), q87.2)
        try dsimp only at hz
        exact hz
      · refine x_iconst (pc := 461) (a := 0) dL_law_461 (by decide) ?_
        exact x_zret (pc := 462) rfl (by decide) rfl dL_law_462 (Nat.le_of_ble_eq_true rfl) (Nat.le_of_ble_eq_true rfl)
    refine SP.ite (fun h89 => ?_) (fun h89 => ?_)
    · refine x_tsw_in (pc := 33) (tgt := 463) (off := 430) dL_law_33 (by rw [h89]; decide) (by rw [h89]; decide) (by rw [h89]; rfl) (by decide) ?_
      refine x_aload_n (pc := 463) dL_law_463 rfl ?_
      refine lV_I (pc := 464) (As := []) (rest := []) (ct_X9_today s9.2) rfl xC9 rfl (by decide) ml_L_54 meX9_today rfl ⟨prX9_today, (Nat.le_of_ble_eq_true rfl), (Nat.le_of_ble_eq_true rfl), rfl, rfl⟩ (Nat.le_of_ble_eq_true rfl) (Nat.le_of_ble_eq_true rfl) (Nat.le_of_ble_eq_true rfl) dL_law_464 (fun v90 => ?_)
      refine x_aload_n (pc := 467) dL_law_467 rfl ?_
      refine lV_I (pc := 468) (As := []) (rest := [(.int v90)]) (ct_X10_today s9.2) rfl xC10 rfl (by decide) ml_L_57 meX10_today rfl ⟨prX10_today, (Nat.le_of_ble_eq_true rfl), (Nat.le_of_ble_eq_true rfl), rfl, rfl⟩ (Nat.le_of_ble_eq_true rfl) (Nat.le_of_ble_eq_true rfl) (Nat.le_of_ble_eq_true rfl) dL_law_468 (fun v91 => ?_)
      refine x_icmp_eq (pc := 471) (tgt := 1135) dL_law_471 (by decide) (fun h92 => ?_) (fun h92 => ?_)
      · refine x_iinc (pc := 1135) (b := (s9.1 + 6)) (L' := [some (.ref 203), some (.ref 0), some (.ref 170), some (.int (s9.1 + 6))]) dL_law_1135 rfl rfl (Nat.le_of_ble_eq_true rfl) rfl rfl ?_
        refine x_goto (pc := 1138) (tgt := 18) dL_law_1138 (by decide) ?_
        have hz := hkk10 ((s9.1 + 6), s9.2)
        try dsimp only at hz
        exact hz
      · refine x_iconst (pc := 474) (a := 0) dL_law_474 (by decide) ?_
        exact x_zret (pc := 475) rfl (by decide) rfl dL_law_475 (Nat.le_of_ble_eq_true rfl) (Nat.le_of_ble_eq_true rfl)
    refine SP.ite (fun h93 => ?_) (fun h93 => ?_)
    · refine x_tsw_in (pc := 33) (tgt := 476) (off := 443) dL_law_33 (by rw [h93]; decide) (by rw [h93]; decide) (by rw [h93]; rfl) (by decide) ?_
      refine x_aload_n (pc := 476) dL_law_476 rfl ?_
      refine x_aload_n (pc := 477) dL_law_477 rfl ?_
      refine x_iload_n (pc := 478) dL_law_478 rfl ?_
      refine x_iconst (pc := 479) (a := 1) dL_law_479 (by decide) ?_
      refine x_iadd (pc := 480) dL_law_480 ?_
      refine x_sld (pc := 481) rfl dL_law_481 (fun hb94 => ?_)
      refine x_aload_n (pc := 482) dL_law_482 rfl ?_
      refine x_iload_n (pc := 483) dL_law_483 rfl ?_
      refine x_iconst (pc := 484) (a := 2) dL_law_484 (by decide) ?_
      refine x_iadd (pc := 485) dL_law_485 ?_
      refine x_sld (pc := 486) rfl dL_law_486 (fun hb95 => ?_)
      refine lV_IM (pc := 487) (As := [(.int (xs (s9.1 + (1:Int32)).toNatClampNeg)), (.int (xs (s9.1 + (2:Int32)).toNatClampNeg))]) (rest := []) (ct_X9_set (xs (s9.1 + (1:Int32)).toNatClampNeg) (xs (s9.1 + (2:Int32)).toNatClampNeg) s9.2) rfl xC9 rfl (by decide) ml_L_58 meX9_set rfl ⟨prX9_set, (Nat.le_of_ble_eq_true rfl), (Nat.le_of_ble_eq_true rfl), rfl, rfl⟩ (Nat.le_of_ble_eq_true rfl) (Nat.le_of_ble_eq_true rfl) (Nat.le_of_ble_eq_true rfl) dL_law_487 (fun q96 => ?_)
      refine x_aload_n (pc := 490) dL_law_490 rfl ?_
      refine x_aload_n (pc := 491) dL_law_491 rfl ?_
      refine x_iload_n (pc := 492) dL_law_492 rfl ?_
      refine x_iconst (pc := 493) (a := 1) dL_law_493 (by decide) ?_
      refine x_iadd (pc := 494) dL_law_494 ?_
      refine x_sld (pc := 495) rfl dL_law_495 (fun hb97 => ?_)
      refine x_aload_n (pc := 496) dL_law_496 rfl ?_
      refine x_iload_n (pc := 497) dL_law_497 rfl ?_
      refine x_iconst (pc := 498) (a := 2) dL_law_498 (by decide) ?_
      refine x_iadd (pc := 499) dL_law_499 ?_
      refine x_sld (pc := 500) rfl dL_law_500 (fun hb98 => ?_)
      refine lV_IM (pc := 501) (As := [(.int (xs (s9.1 + (1:Int32)).toNatClampNeg)), (.int (xs (s9.1 + (2:Int32)).toNatClampNeg))]) (rest := [(.int q96.1)]) (ct_X10_set (xs (s9.1 + (1:Int32)).toNatClampNeg) (xs (s9.1 + (2:Int32)).toNatClampNeg) q96.2) rfl xC10 rfl (by decide) ml_L_62 meX10_set rfl ⟨prX10_set, (Nat.le_of_ble_eq_true rfl), (Nat.le_of_ble_eq_true rfl), rfl, rfl⟩ (Nat.le_of_ble_eq_true rfl) (Nat.le_of_ble_eq_true rfl) (Nat.le_of_ble_eq_true rfl) dL_law_501 (fun q99 => ?_)
      refine x_icmp_eq (pc := 504) (tgt := 1135) dL_law_504 (by decide) (fun h100 => ?_) (fun h100 => ?_)
      · refine x_iinc (pc := 1135) (b := (s9.1 + 6)) (L' := [some (.ref 203), some (.ref 0), some (.ref 170), some (.int (s9.1 + 6))]) dL_law_1135 rfl rfl (Nat.le_of_ble_eq_true rfl) rfl rfl ?_
        refine x_goto (pc := 1138) (tgt := 18) dL_law_1138 (by decide) ?_
        have hz := hkk10 ((s9.1 + 6), q99.2)
        try dsimp only at hz
        exact hz
      · refine x_iconst (pc := 507) (a := 0) dL_law_507 (by decide) ?_
        exact x_zret (pc := 508) rfl (by decide) rfl dL_law_508 (Nat.le_of_ble_eq_true rfl) (Nat.le_of_ble_eq_true rfl)
    refine SP.ite (fun h101 => ?_) (fun h101 => ?_)
    · refine x_tsw_in (pc := 33) (tgt := 509) (off := 476) dL_law_33 (by rw [h101]; decide) (by rw [h101]; decide) (by rw [h101]; rfl) (by decide) ?_
      refine x_aload_n (pc := 509) dL_law_509 rfl ?_
      refine x_aload_n (pc := 510) dL_law_510 rfl ?_
      refine x_iload_n (pc := 511) dL_law_511 rfl ?_
      refine x_iconst (pc := 512) (a := 1) dL_law_512 (by decide) ?_
      refine x_iadd (pc := 513) dL_law_513 ?_
      refine x_sld (pc := 514) rfl dL_law_514 (fun hb102 => ?_)
      refine x_aload_n (pc := 515) dL_law_515 rfl ?_
      refine x_iload_n (pc := 516) dL_law_516 rfl ?_
      refine x_iconst (pc := 517) (a := 2) dL_law_517 (by decide) ?_
      refine x_iadd (pc := 518) dL_law_518 ?_
      refine x_sld (pc := 519) rfl dL_law_519 (fun hb103 => ?_)
      refine lV_I (pc := 520) (As := [(.int (xs (s9.1 + (1:Int32)).toNatClampNeg)), (.int (xs (s9.1 + (2:Int32)).toNatClampNeg))]) (rest := []) (ct_X9_raw (xs (s9.1 + (1:Int32)).toNatClampNeg) (xs (s9.1 + (2:Int32)).toNatClampNeg) s9.2) rfl xC9 rfl (by decide) ml_L_63 meX9_raw rfl ⟨prX9_raw, (Nat.le_of_ble_eq_true rfl), (Nat.le_of_ble_eq_true rfl), rfl, rfl⟩ (Nat.le_of_ble_eq_true rfl) (Nat.le_of_ble_eq_true rfl) (Nat.le_of_ble_eq_true rfl) dL_law_520 (fun v104 => ?_)
      refine x_aload_n (pc := 523) dL_law_523 rfl ?_
      refine x_aload_n (pc := 524) dL_law_524 rfl ?_
      refine x_iload_n (pc := 525) dL_law_525 rfl ?_
      refine x_iconst (pc := 526) (a := 1) dL_law_526 (by decide) ?_
      refine x_iadd (pc := 527) dL_law_527 ?_
      refine x_sld (pc := 528) rfl dL_law_528 (fun hb105 => ?_)
      refine x_aload_n (pc := 529) dL_law_529 rfl ?_
      refine x_iload_n (pc := 530) dL_law_530 rfl ?_
      refine x_iconst (pc := 531) (a := 2) dL_law_531 (by decide) ?_
      refine x_iadd (pc := 532) dL_law_532 ?_
      refine x_sld (pc := 533) rfl dL_law_533 (fun hb106 => ?_)
      refine lV_I (pc := 534) (As := [(.int (xs (s9.1 + (1:Int32)).toNatClampNeg)), (.int (xs (s9.1 + (2:Int32)).toNatClampNeg))]) (rest := [(.int v104)]) (ct_X10_raw (xs (s9.1 + (1:Int32)).toNatClampNeg) (xs (s9.1 + (2:Int32)).toNatClampNeg) s9.2) rfl xC10 rfl (by decide) ml_L_66 meX10_raw rfl ⟨prX10_raw, (Nat.le_of_ble_eq_true rfl), (Nat.le_of_ble_eq_true rfl), rfl, rfl⟩ (Nat.le_of_ble_eq_true rfl) (Nat.le_of_ble_eq_true rfl) (Nat.le_of_ble_eq_true rfl) dL_law_534 (fun v107 => ?_)
      refine x_icmp_eq (pc := 537) (tgt := 1135) dL_law_537 (by decide) (fun h108 => ?_) (fun h108 => ?_)
      · refine x_iinc (pc := 1135) (b := (s9.1 + 6)) (L' := [some (.ref 203), some (.ref 0), some (.ref 170), some (.int (s9.1 + 6))]) dL_law_1135 rfl rfl (Nat.le_of_ble_eq_true rfl) rfl rfl ?_
        refine x_goto (pc := 1138) (tgt := 18) dL_law_1138 (by decide) ?_
        have hz := hkk10 ((s9.1 + 6), s9.2)
        try dsimp only at hz
        exact hz
      · refine x_iconst (pc := 540) (a := 0) dL_law_540 (by decide) ?_
        exact x_zret (pc := 541) rfl (by decide) rfl dL_law_541 (Nat.le_of_ble_eq_true rfl) (Nat.le_of_ble_eq_true rfl)
    refine SP.ite (fun h109 => ?_) (fun h109 => ?_)
    · refine x_tsw_in (pc := 33) (tgt := 542) (off := 509) dL_law_33 (by rw [h109]; decide) (by rw [h109]; decide) (by rw [h109]; rfl) (by decide) ?_
      refine x_aload_n (pc := 542) dL_law_542 rfl ?_
      refine x_aload_n (pc := 543) dL_law_543 rfl ?_
      refine x_iload_n (pc := 544) dL_law_544 rfl ?_
      refine x_iconst (pc := 545) (a := 1) dL_law_545 (by decide) ?_
      refine x_iadd (pc := 546) dL_law_546 ?_
      refine x_sld (pc := 547) rfl dL_law_547 (fun hb110 => ?_)
      refine x_aload_n (pc := 548) dL_law_548 rfl ?_
      refine x_iload_n (pc := 549) dL_law_549 rfl ?_
      refine x_iconst (pc := 550) (a := 2) dL_law_550 (by decide) ?_
      refine x_iadd (pc := 551) dL_law_551 ?_
      refine x_sld (pc := 552) rfl dL_law_552 (fun hb111 => ?_)
      refine x_aload_n (pc := 553) dL_law_553 rfl ?_
      refine x_iload_n (pc := 554) dL_law_554 rfl ?_
      refine x_iconst (pc := 555) (a := 3) dL_law_555 (by decide) ?_
      refine x_iadd (pc := 556) dL_law_556 ?_
      refine x_sld (pc := 557) rfl dL_law_557 (fun hb112 => ?_)
      refine lV_I (pc := 558) (As := [(.int (xs (s9.1 + (1:Int32)).toNatClampNeg)), (.int (xs (s9.1 + (2:Int32)).toNatClampNeg)), (.int (xs (s9.1 + (3:Int32)).toNatClampNeg))]) (rest := []) (ct_X9_known (xs (s9.1 + (1:Int32)).toNatClampNeg) (xs (s9.1 + (2:Int32)).toNatClampNeg) (xs (s9.1 + (3:Int32)).toNatClampNeg) s9.2) rfl xC9 rfl (by decide) ml_L_67 meX9_known rfl ⟨prX9_known, (Nat.le_of_ble_eq_true rfl), (Nat.le_of_ble_eq_true rfl), rfl, rfl⟩ (Nat.le_of_ble_eq_true rfl) (Nat.le_of_ble_eq_true rfl) (Nat.le_of_ble_eq_true rfl) dL_law_558 (fun v113 => ?_)
      refine x_aload_n (pc := 561) dL_law_561 rfl ?_
      refine x_aload_n (pc := 562) dL_law_562 rfl ?_
      refine x_iload_n (pc := 563) dL_law_563 rfl ?_
      refine x_iconst (pc := 564) (a := 1) dL_law_564 (by decide) ?_
      refine x_iadd (pc := 565) dL_law_565 ?_
      refine x_sld (pc := 566) rfl dL_law_566 (fun hb114 => ?_)
      refine x_aload_n (pc := 567) dL_law_567 rfl ?_
      refine x_iload_n (pc := 568) dL_law_568 rfl ?_
      refine x_iconst (pc := 569) (a := 2) dL_law_569 (by decide) ?_
      refine x_iadd (pc := 570) dL_law_570 ?_
      refine x_sld (pc := 571) rfl dL_law_571 (fun hb115 => ?_)
      refine x_aload_n (pc := 572) dL_law_572 rfl ?_
      refine x_iload_n (pc := 573) dL_law_573 rfl ?_
      refine x_iconst (pc := 574) (a := 3) dL_law_574 (by decide) ?_
      refine x_iadd (pc := 575) dL_law_575 ?_
      refine x_sld (pc := 576) rfl dL_law_576 (fun hb116 => ?_)
      refine lV_I (pc := 577) (As := [(.int (xs (s9.1 + (1:Int32)).toNatClampNeg)), (.int (xs (s9.1 + (2:Int32)).toNatClampNeg)), (.int (xs (s9.1 + (3:Int32)).toNatClampNeg))]) (rest := [(.int v113)]) (ct_X10_known (xs (s9.1 + (1:Int32)).toNatClampNeg) (xs (s9.1 + (2:Int32)).toNatClampNeg) (xs (s9.1 + (3:Int32)).toNatClampNeg) s9.2) rfl xC10 rfl (by decide) ml_L_70 meX10_known rfl ⟨prX10_known, (Nat.le_of_ble_eq_true rfl), (Nat.le_of_ble_eq_true rfl), rfl, rfl⟩ (Nat.le_of_ble_eq_true rfl) (Nat.le_of_ble_eq_true rfl) (Nat.le_of_ble_eq_true rfl) dL_law_577 (fun v117 => ?_)
      refine x_icmp_eq (pc := 580) (tgt := 1135) dL_law_580 (by decide) (fun h118 => ?_) (fun h118 => ?_)
      · refine x_iinc (pc := 1135) (b := (s9.1 + 6)) (L' := [some (.ref 203), some (.ref 0), some (.ref 170), some (.int (s9.1 + 6))]) dL_law_1135 rfl rfl (Nat.le_of_ble_eq_true rfl) rfl rfl ?_
        refine x_goto (pc := 1138) (tgt := 18) dL_law_1138 (by decide) ?_
        have hz := hkk10 ((s9.1 + 6), s9.2)
        try dsimp only at hz
        exact hz
      · refine x_iconst (pc := 583) (a := 0) dL_law_583 (by decide) ?_
        exact x_zret (pc := 584) rfl (by decide) rfl dL_law_584 (Nat.le_of_ble_eq_true rfl) (Nat.le_of_ble_eq_true rfl)
    refine SP.ite (fun h119 => ?_) (fun h119 => ?_)
    · refine x_tsw_in (pc := 33) (tgt := 585) (off := 552) dL_law_33 (by rw [h119]; decide) (by rw [h119]; decide) (by rw [h119]; rfl) (by decide) ?_
      refine x_aload_n (pc := 585) dL_law_585 rfl ?_
      refine x_aload_n (pc := 586) dL_law_586 rfl ?_
      refine x_iload_n (pc := 587) dL_law_587 rfl ?_
      refine x_iconst (pc := 588) (a := 1) dL_law_588 (by decide) ?_
      refine x_iadd (pc := 589) dL_law_589 ?_
      refine x_sld (pc := 590) rfl dL_law_590 (fun hb120 => ?_)
      refine x_aload_n (pc := 591) dL_law_591 rfl ?_
      refine x_iload_n (pc := 592) dL_law_592 rfl ?_
      refine x_iconst (pc := 593) (a := 2) dL_law_593 (by decide) ?_
      refine x_iadd (pc := 594) dL_law_594 ?_
      refine x_sld (pc := 595) rfl dL_law_595 (fun hb121 => ?_)
      refine lV_IM (pc := 596) (As := [(.int (xs (s9.1 + (1:Int32)).toNatClampNeg)), (.int (xs (s9.1 + (2:Int32)).toNatClampNeg))]) (rest := []) (ct_X9_why (xs (s9.1 + (1:Int32)).toNatClampNeg) (xs (s9.1 + (2:Int32)).toNatClampNeg) s9.2) rfl xC9 rfl (by decide) ml_L_71 meX9_why rfl ⟨prX9_why, (Nat.le_of_ble_eq_true rfl), (Nat.le_of_ble_eq_true rfl), rfl, rfl⟩ (Nat.le_of_ble_eq_true rfl) (Nat.le_of_ble_eq_true rfl) (Nat.le_of_ble_eq_true rfl) dL_law_596 (fun q122 => ?_)
      refine x_aload_n (pc := 599) dL_law_599 rfl ?_
      refine x_aload_n (pc := 600) dL_law_600 rfl ?_
      refine x_iload_n (pc := 601) dL_law_601 rfl ?_
      refine x_iconst (pc := 602) (a := 1) dL_law_602 (by decide) ?_
      refine x_iadd (pc := 603) dL_law_603 ?_
      refine x_sld (pc := 604) rfl dL_law_604 (fun hb123 => ?_)
      refine x_aload_n (pc := 605) dL_law_605 rfl ?_
      refine x_iload_n (pc := 606) dL_law_606 rfl ?_
      refine x_iconst (pc := 607) (a := 2) dL_law_607 (by decide) ?_
      refine x_iadd (pc := 608) dL_law_608 ?_
      refine x_sld (pc := 609) rfl dL_law_609 (fun hb124 => ?_)
      refine lV_I (pc := 610) (As := [(.int (xs (s9.1 + (1:Int32)).toNatClampNeg)), (.int (xs (s9.1 + (2:Int32)).toNatClampNeg))]) (rest := [(.int q122.1)]) (ct_X10_why (xs (s9.1 + (1:Int32)).toNatClampNeg) (xs (s9.1 + (2:Int32)).toNatClampNeg) q122.2) rfl xC10 rfl (by decide) ml_L_74 meX10_why rfl ⟨prX10_why, (Nat.le_of_ble_eq_true rfl), (Nat.le_of_ble_eq_true rfl), rfl, rfl⟩ (Nat.le_of_ble_eq_true rfl) (Nat.le_of_ble_eq_true rfl) (Nat.le_of_ble_eq_true rfl) dL_law_610 (fun v125 => ?_)
      refine x_icmp_eq (pc := 613) (tgt := 1135) dL_law_613 (by decide) (fun h126 => ?_) (fun h126 => ?_)
      · refine x_iinc (pc := 1135) (b := (s9.1 + 6)) (L' := [some (.ref 203), some (.ref 0), some (.ref 170), some (.int (s9.1 + 6))]) dL_law_1135 rfl rfl (Nat.le_of_ble_eq_true rfl) rfl rfl ?_
        refine x_goto (pc := 1138) (tgt := 18) dL_law_1138 (by decide) ?_
        have hz := hkk10 ((s9.1 + 6), q122.2)
        try dsimp only at hz
        exact hz
      · refine x_iconst (pc := 616) (a := 0) dL_law_616 (by decide) ?_
        exact x_zret (pc := 617) rfl (by decide) rfl dL_law_617 (Nat.le_of_ble_eq_true rfl) (Nat.le_of_ble_eq_true rfl)
    refine SP.ite (fun h127 => ?_) (fun h127 => ?_)
    · refine x_tsw_in (pc := 33) (tgt := 618) (off := 585) dL_law_33 (by rw [h127]; decide) (by rw [h127]; decide) (by rw [h127]; rfl) (by decide) ?_
      refine x_aload_n (pc := 618) dL_law_618 rfl ?_
      refine x_aload_n (pc := 619) dL_law_619 rfl ?_
      refine x_iload_n (pc := 620) dL_law_620 rfl ?_
      refine x_iconst (pc := 621) (a := 1) dL_law_621 (by decide) ?_
      refine x_iadd (pc := 622) dL_law_622 ?_
      refine x_sld (pc := 623) rfl dL_law_623 (fun hb128 => ?_)
      refine x_aload_n (pc := 624) dL_law_624 rfl ?_
      refine x_iload_n (pc := 625) dL_law_625 rfl ?_
      refine x_iconst (pc := 626) (a := 2) dL_law_626 (by decide) ?_
      refine x_iadd (pc := 627) dL_law_627 ?_
      refine x_sld (pc := 628) rfl dL_law_628 (fun hb129 => ?_)
      refine lV_IM (pc := 629) (As := [(.int (xs (s9.1 + (1:Int32)).toNatClampNeg)), (.int (xs (s9.1 + (2:Int32)).toNatClampNeg))]) (rest := []) (ct_X9_state (xs (s9.1 + (1:Int32)).toNatClampNeg) (xs (s9.1 + (2:Int32)).toNatClampNeg) s9.2) rfl xC9 rfl (by decide) ml_L_75 meX9_state rfl ⟨prX9_state, (Nat.le_of_ble_eq_true rfl), (Nat.le_of_ble_eq_true rfl), rfl, rfl⟩ (Nat.le_of_ble_eq_true rfl) (Nat.le_of_ble_eq_true rfl) (Nat.le_of_ble_eq_true rfl) dL_law_629 (fun q130 => ?_)
      refine x_aload_n (pc := 632) dL_law_632 rfl ?_
      refine x_aload_n (pc := 633) dL_law_633 rfl ?_
      refine x_iload_n (pc := 634) dL_law_634 rfl ?_
      refine x_iconst (pc := 635) (a := 1) dL_law_635 (by decide) ?_
      refine x_iadd (pc := 636) dL_law_636 ?_
      refine x_sld (pc := 637) rfl dL_law_637 (fun hb131 => ?_)
      refine x_aload_n (pc := 638) dL_law_638 rfl ?_
      refine x_iload_n (pc := 639) dL_law_639 rfl ?_
      refine x_iconst (pc := 640) (a := 2) dL_law_640 (by decide) ?_
      refine x_iadd (pc := 641) dL_law_641 ?_
      refine x_sld (pc := 642) rfl dL_law_642 (fun hb132 => ?_)
      refine lV_IM (pc := 643) (As := [(.int (xs (s9.1 + (1:Int32)).toNatClampNeg)), (.int (xs (s9.1 + (2:Int32)).toNatClampNeg))]) (rest := [(.int q130.1)]) (ct_X10_state (xs (s9.1 + (1:Int32)).toNatClampNeg) (xs (s9.1 + (2:Int32)).toNatClampNeg) q130.2) rfl xC10 rfl (by decide) ml_L_78 meX10_state rfl ⟨prX10_state, (Nat.le_of_ble_eq_true rfl), (Nat.le_of_ble_eq_true rfl), rfl, rfl⟩ (Nat.le_of_ble_eq_true rfl) (Nat.le_of_ble_eq_true rfl) (Nat.le_of_ble_eq_true rfl) dL_law_643 (fun q133 => ?_)
      refine x_icmp_eq (pc := 646) (tgt := 1135) dL_law_646 (by decide) (fun h134 => ?_) (fun h134 => ?_)
      · refine x_iinc (pc := 1135) (b := (s9.1 + 6)) (L' := [some (.ref 203), some (.ref 0), some (.ref 170), some (.int (s9.1 + 6))]) dL_law_1135 rfl rfl (Nat.le_of_ble_eq_true rfl) rfl rfl ?_
        refine x_goto (pc := 1138) (tgt := 18) dL_law_1138 (by decide) ?_
        have hz := hkk10 ((s9.1 + 6), q133.2)
        try dsimp only at hz
        exact hz
      · refine x_iconst (pc := 649) (a := 0) dL_law_649 (by decide) ?_
        exact x_zret (pc := 650) rfl (by decide) rfl dL_law_650 (Nat.le_of_ble_eq_true rfl) (Nat.le_of_ble_eq_true rfl)
    refine SP.ite (fun h135 => ?_) (fun h135 => ?_)
    · refine x_tsw_in (pc := 33) (tgt := 651) (off := 618) dL_law_33 (by rw [h135]; decide) (by rw [h135]; decide) (by rw [h135]; rfl) (by decide) ?_
      refine x_aload_n (pc := 651) dL_law_651 rfl ?_
      refine x_aload_n (pc := 652) dL_law_652 rfl ?_
      refine x_iload_n (pc := 653) dL_law_653 rfl ?_
      refine x_iconst (pc := 654) (a := 1) dL_law_654 (by decide) ?_
      refine x_iadd (pc := 655) dL_law_655 ?_
      refine x_sld (pc := 656) rfl dL_law_656 (fun hb136 => ?_)
      refine x_aload_n (pc := 657) dL_law_657 rfl ?_
      refine x_iload_n (pc := 658) dL_law_658 rfl ?_
      refine x_iconst (pc := 659) (a := 2) dL_law_659 (by decide) ?_
      refine x_iadd (pc := 660) dL_law_660 ?_
      refine x_sld (pc := 661) rfl dL_law_661 (fun hb137 => ?_)
      refine lV_IM (pc := 662) (As := [(.int (xs (s9.1 + (1:Int32)).toNatClampNeg)), (.int (xs (s9.1 + (2:Int32)).toNatClampNeg))]) (rest := []) (ct_X9_number (xs (s9.1 + (1:Int32)).toNatClampNeg) (xs (s9.1 + (2:Int32)).toNatClampNeg) s9.2) rfl xC9 rfl (by decide) ml_L_79 meX9_number rfl ⟨prX9_number, (Nat.le_of_ble_eq_true rfl), (Nat.le_of_ble_eq_true rfl), rfl, rfl⟩ (Nat.le_of_ble_eq_true rfl) (Nat.le_of_ble_eq_true rfl) (Nat.le_of_ble_eq_true rfl) dL_law_662 (fun q138 => ?_)
      refine x_aload_n (pc := 665) dL_law_665 rfl ?_
      refine x_aload_n (pc := 666) dL_law_666 rfl ?_
      refine x_iload_n (pc := 667) dL_law_667 rfl ?_
      refine x_iconst (pc := 668) (a := 1) dL_law_668 (by decide) ?_
      refine x_iadd (pc := 669) dL_law_669 ?_
      refine x_sld (pc := 670) rfl dL_law_670 (fun hb139 => ?_)
      refine x_aload_n (pc := 671) dL_law_671 rfl ?_
      refine x_iload_n (pc := 672) dL_law_672 rfl ?_
      refine x_iconst (pc := 673) (a := 2) dL_law_673 (by decide) ?_
      refine x_iadd (pc := 674) dL_law_674 ?_
      refine x_sld (pc := 675) rfl dL_law_675 (fun hb140 => ?_)
      refine lV_IM (pc := 676) (As := [(.int (xs (s9.1 + (1:Int32)).toNatClampNeg)), (.int (xs (s9.1 + (2:Int32)).toNatClampNeg))]) (rest := [(.int q138.1)]) (ct_X10_number (xs (s9.1 + (1:Int32)).toNatClampNeg) (xs (s9.1 + (2:Int32)).toNatClampNeg) q138.2) rfl xC10 rfl (by decide) ml_L_82 meX10_number rfl ⟨prX10_number, (Nat.le_of_ble_eq_true rfl), (Nat.le_of_ble_eq_true rfl), rfl, rfl⟩ (Nat.le_of_ble_eq_true rfl) (Nat.le_of_ble_eq_true rfl) (Nat.le_of_ble_eq_true rfl) dL_law_676 (fun q141 => ?_)
      refine x_icmp_eq (pc := 679) (tgt := 1135) dL_law_679 (by decide) (fun h142 => ?_) (fun h142 => ?_)
      · refine x_iinc (pc := 1135) (b := (s9.1 + 6)) (L' := [some (.ref 203), some (.ref 0), some (.ref 170), some (.int (s9.1 + 6))]) dL_law_1135 rfl rfl (Nat.le_of_ble_eq_true rfl) rfl rfl ?_
        refine x_goto (pc := 1138) (tgt := 18) dL_law_1138 (by decide) ?_
        have hz := hkk10 ((s9.1 + 6), q141.2)
        try dsimp only at hz
        exact hz
      · refine x_iconst (pc := 682) (a := 0) dL_law_682 (by decide) ?_
        exact x_zret (pc := 683) rfl (by decide) rfl dL_law_683 (Nat.le_of_ble_eq_true rfl) (Nat.le_of_ble_eq_true rfl)
    refine SP.ite (fun h143 => ?_) (fun h143 => ?_)
    · refine x_tsw_in (pc := 33) (tgt := 684) (off := 651) dL_law_33 (by rw [h143]; decide) (by rw [h143]; decide) (by rw [h143]; rfl) (by decide) ?_
      refine x_aload_n (pc := 684) dL_law_684 rfl ?_
      refine x_aload_n (pc := 685) dL_law_685 rfl ?_
      refine x_iload_n (pc := 686) dL_law_686 rfl ?_
      refine x_iconst (pc := 687) (a := 1) dL_law_687 (by decide) ?_
      refine x_iadd (pc := 688) dL_law_688 ?_
      refine x_sld (pc := 689) rfl dL_law_689 (fun hb144 => ?_)
      refine x_aload_n (pc := 690) dL_law_690 rfl ?_
      refine x_iload_n (pc := 691) dL_law_691 rfl ?_
      refine x_iconst (pc := 692) (a := 2) dL_law_692 (by decide) ?_
      refine x_iadd (pc := 693) dL_law_693 ?_
      refine x_sld (pc := 694) rfl dL_law_694 (fun hb145 => ?_)
      refine x_aload_n (pc := 695) dL_law_695 rfl ?_
      refine x_iload_n (pc := 696) dL_law_696 rfl ?_
      refine x_iconst (pc := 697) (a := 3) dL_law_697 (by decide) ?_
      refine x_iadd (pc := 698) dL_law_698 ?_
      refine x_sld (pc := 699) rfl dL_law_699 (fun hb146 => ?_)
      refine lV_IM (pc := 700) (As := [(.int (xs (s9.1 + (1:Int32)).toNatClampNeg)), (.int (xs (s9.1 + (2:Int32)).toNatClampNeg)), (.int (xs (s9.1 + (3:Int32)).toNatClampNeg))]) (rest := []) (ct_X9_from (xs (s9.1 + (1:Int32)).toNatClampNeg) (xs (s9.1 + (2:Int32)).toNatClampNeg) (xs (s9.1 + (3:Int32)).toNatClampNeg) s9.2) rfl xC9 rfl (by decide) ml_L_83 meX9_from rfl ⟨prX9_from, (Nat.le_of_ble_eq_true rfl), (Nat.le_of_ble_eq_true rfl), rfl, rfl⟩ (Nat.le_of_ble_eq_true rfl) (Nat.le_of_ble_eq_true rfl) (Nat.le_of_ble_eq_true rfl) dL_law_700 (fun q147 => ?_)
      refine x_aload_n (pc := 703) dL_law_703 rfl ?_
      refine x_aload_n (pc := 704) dL_law_704 rfl ?_
      refine x_iload_n (pc := 705) dL_law_705 rfl ?_
      refine x_iconst (pc := 706) (a := 1) dL_law_706 (by decide) ?_
      refine x_iadd (pc := 707) dL_law_707 ?_
      refine x_sld (pc := 708) rfl dL_law_708 (fun hb148 => ?_)
      refine x_aload_n (pc := 709) dL_law_709 rfl ?_
      refine x_iload_n (pc := 710) dL_law_710 rfl ?_
      refine x_iconst (pc := 711) (a := 2) dL_law_711 (by decide) ?_
      refine x_iadd (pc := 712) dL_law_712 ?_
      refine x_sld (pc := 713) rfl dL_law_713 (fun hb149 => ?_)
      refine x_aload_n (pc := 714) dL_law_714 rfl ?_
      refine x_iload_n (pc := 715) dL_law_715 rfl ?_
      refine x_iconst (pc := 716) (a := 3) dL_law_716 (by decide) ?_
      refine x_iadd (pc := 717) dL_law_717 ?_
      refine x_sld (pc := 718) rfl dL_law_718 (fun hb150 => ?_)
      refine lV_IM (pc := 719) (As := [(.int (xs (s9.1 + (1:Int32)).toNatClampNeg)), (.int (xs (s9.1 + (2:Int32)).toNatClampNeg)), (.int (xs (s9.1 + (3:Int32)).toNatClampNeg))]) (rest := [(.int q147.1)]) (ct_X10_from (xs (s9.1 + (1:Int32)).toNatClampNeg) (xs (s9.1 + (2:Int32)).toNatClampNeg) (xs (s9.1 + (3:Int32)).toNatClampNeg) q147.2) rfl xC10 rfl (by decide) ml_L_86 meX10_from rfl ⟨prX10_from, (Nat.le_of_ble_eq_true rfl), (Nat.le_of_ble_eq_true rfl), rfl, rfl⟩ (Nat.le_of_ble_eq_true rfl) (Nat.le_of_ble_eq_true rfl) (Nat.le_of_ble_eq_true rfl) dL_law_719 (fun q151 => ?_)
      refine x_icmp_eq (pc := 722) (tgt := 1135) dL_law_722 (by decide) (fun h152 => ?_) (fun h152 => ?_)
      · refine x_iinc (pc := 1135) (b := (s9.1 + 6)) (L' := [some (.ref 203), some (.ref 0), some (.ref 170), some (.int (s9.1 + 6))]) dL_law_1135 rfl rfl (Nat.le_of_ble_eq_true rfl) rfl rfl ?_
        refine x_goto (pc := 1138) (tgt := 18) dL_law_1138 (by decide) ?_
        have hz := hkk10 ((s9.1 + 6), q151.2)
        try dsimp only at hz
        exact hz
      · refine x_iconst (pc := 725) (a := 0) dL_law_725 (by decide) ?_
        exact x_zret (pc := 726) rfl (by decide) rfl dL_law_726 (Nat.le_of_ble_eq_true rfl) (Nat.le_of_ble_eq_true rfl)
    refine SP.ite (fun h153 => ?_) (fun h153 => ?_)
    · refine x_tsw_in (pc := 33) (tgt := 727) (off := 694) dL_law_33 (by rw [h153]; decide) (by rw [h153]; decide) (by rw [h153]; rfl) (by decide) ?_
      refine x_aload_n (pc := 727) dL_law_727 rfl ?_
      refine x_aload_n (pc := 728) dL_law_728 rfl ?_
      refine x_iload_n (pc := 729) dL_law_729 rfl ?_
      refine x_iconst (pc := 730) (a := 1) dL_law_730 (by decide) ?_
      refine x_iadd (pc := 731) dL_law_731 ?_
      refine x_sld (pc := 732) rfl dL_law_732 (fun hb154 => ?_)
      refine x_aload_n (pc := 733) dL_law_733 rfl ?_
      refine x_iload_n (pc := 734) dL_law_734 rfl ?_
      refine x_iconst (pc := 735) (a := 2) dL_law_735 (by decide) ?_
      refine x_iadd (pc := 736) dL_law_736 ?_
      refine x_sld (pc := 737) rfl dL_law_737 (fun hb155 => ?_)
      refine x_aload_n (pc := 738) dL_law_738 rfl ?_
      refine x_iload_n (pc := 739) dL_law_739 rfl ?_
      refine x_iconst (pc := 740) (a := 3) dL_law_740 (by decide) ?_
      refine x_iadd (pc := 741) dL_law_741 ?_
      refine x_sld (pc := 742) rfl dL_law_742 (fun hb156 => ?_)
      refine lV_IM (pc := 743) (As := [(.int (xs (s9.1 + (1:Int32)).toNatClampNeg)), (.int (xs (s9.1 + (2:Int32)).toNatClampNeg)), (.int (xs (s9.1 + (3:Int32)).toNatClampNeg))]) (rest := []) (ct_X9_part (xs (s9.1 + (1:Int32)).toNatClampNeg) (xs (s9.1 + (2:Int32)).toNatClampNeg) (xs (s9.1 + (3:Int32)).toNatClampNeg) s9.2) rfl xC9 rfl (by decide) ml_L_87 meX9_part rfl ⟨prX9_part, (Nat.le_of_ble_eq_true rfl), (Nat.le_of_ble_eq_true rfl), rfl, rfl⟩ (Nat.le_of_ble_eq_true rfl) (Nat.le_of_ble_eq_true rfl) (Nat.le_of_ble_eq_true rfl) dL_law_743 (fun q157 => ?_)
      refine x_aload_n (pc := 746) dL_law_746 rfl ?_
      refine x_aload_n (pc := 747) dL_law_747 rfl ?_
      refine x_iload_n (pc := 748) dL_law_748 rfl ?_
      refine x_iconst (pc := 749) (a := 1) dL_law_749 (by decide) ?_
      refine x_iadd (pc := 750) dL_law_750 ?_
      refine x_sld (pc := 751) rfl dL_law_751 (fun hb158 => ?_)
      refine x_aload_n (pc := 752) dL_law_752 rfl ?_
      refine x_iload_n (pc := 753) dL_law_753 rfl ?_
      refine x_iconst (pc := 754) (a := 2) dL_law_754 (by decide) ?_
      refine x_iadd (pc := 755) dL_law_755 ?_
      refine x_sld (pc := 756) rfl dL_law_756 (fun hb159 => ?_)
      refine x_aload_n (pc := 757) dL_law_757 rfl ?_
      refine x_iload_n (pc := 758) dL_law_758 rfl ?_
      refine x_iconst (pc := 759) (a := 3) dL_law_759 (by decide) ?_
      refine x_iadd (pc := 760) dL_law_760 ?_
      refine x_sld (pc := 761) rfl dL_law_761 (fun hb160 => ?_)
      refine lV_I (pc := 762) (As := [(.int (xs (s9.1 + (1:Int32)).toNatClampNeg)), (.int (xs (s9.1 + (2:Int32)).toNatClampNeg)), (.int (xs (s9.1 + (3:Int32)).toNatClampNeg))]) (rest := [(.int q157.1)]) (ct_X10_part (xs (s9.1 + (1:Int32)).toNatClampNeg) (xs (s9.1 + (2:Int32)).toNatClampNeg) (xs (s9.1 + (3:Int32)).toNatClampNeg) q157.2) rfl xC10 rfl (by decide) ml_L_90 meX10_part rfl ⟨prX10_part, (Nat.le_of_ble_eq_true rfl), (Nat.le_of_ble_eq_true rfl), rfl, rfl⟩ (Nat.le_of_ble_eq_true rfl) (Nat.le_of_ble_eq_true rfl) (Nat.le_of_ble_eq_true rfl) dL_law_762 (fun v161 => ?_)
      refine x_icmp_eq (pc := 765) (tgt := 1135) dL_law_765 (by decide) (fun h162 => ?_) (fun h162 => ?_)
      · refine x_iinc (pc := 1135) (b := (s9.1 + 6)) (L' := [some (.ref 203), some (.ref 0), some (.ref 170), some (.int (s9.1 + 6))]) dL_law_1135 rfl rfl (Nat.le_of_ble_eq_true rfl) rfl rfl ?_
        refine x_goto (pc := 1138) (tgt := 18) dL_law_1138 (by decide) ?_
        have hz := hkk10 ((s9.1 + 6), q157.2)
        try dsimp only at hz
        exact hz
      · refine x_iconst (pc := 768) (a := 0) dL_law_768 (by decide) ?_
        exact x_zret (pc := 769) rfl (by decide) rfl dL_law_769 (Nat.le_of_ble_eq_true rfl) (Nat.le_of_ble_eq_true rfl)
    refine SP.ite (fun h163 => ?_) (fun h163 => ?_)
    · refine x_tsw_in (pc := 33) (tgt := 770) (off := 737) dL_law_33 (by rw [h163]; decide) (by rw [h163]; decide) (by rw [h163]; rfl) (by decide) ?_
      refine x_aload_n (pc := 770) dL_law_770 rfl ?_
      refine x_aload_n (pc := 771) dL_law_771 rfl ?_
      refine x_iload_n (pc := 772) dL_law_772 rfl ?_
      refine x_iconst (pc := 773) (a := 1) dL_law_773 (by decide) ?_
      refine x_iadd (pc := 774) dL_law_774 ?_
      refine x_sld (pc := 775) rfl dL_law_775 (fun hb164 => ?_)
      refine x_aload_n (pc := 776) dL_law_776 rfl ?_
      refine x_iload_n (pc := 777) dL_law_777 rfl ?_
      refine x_iconst (pc := 778) (a := 2) dL_law_778 (by decide) ?_
      refine x_iadd (pc := 779) dL_law_779 ?_
      refine x_sld (pc := 780) rfl dL_law_780 (fun hb165 => ?_)
      refine lV_IM (pc := 781) (As := [(.int (xs (s9.1 + (1:Int32)).toNatClampNeg)), (.int (xs (s9.1 + (2:Int32)).toNatClampNeg))]) (rest := []) (ct_X9_squares (xs (s9.1 + (1:Int32)).toNatClampNeg) (xs (s9.1 + (2:Int32)).toNatClampNeg) s9.2) rfl xC9 rfl (by decide) ml_L_91 meX9_squares rfl ⟨prX9_squares, (Nat.le_of_ble_eq_true rfl), (Nat.le_of_ble_eq_true rfl), rfl, rfl⟩ (Nat.le_of_ble_eq_true rfl) (Nat.le_of_ble_eq_true rfl) (Nat.le_of_ble_eq_true rfl) dL_law_781 (fun q166 => ?_)
      refine x_aload_n (pc := 784) dL_law_784 rfl ?_
      refine x_aload_n (pc := 785) dL_law_785 rfl ?_
      refine x_iload_n (pc := 786) dL_law_786 rfl ?_
      refine x_iconst (pc := 787) (a := 1) dL_law_787 (by decide) ?_
      refine x_iadd (pc := 788) dL_law_788 ?_
      refine x_sld (pc := 789) rfl dL_law_789 (fun hb167 => ?_)
      refine x_aload_n (pc := 790) dL_law_790 rfl ?_
      refine x_iload_n (pc := 791) dL_law_791 rfl ?_
      refine x_iconst (pc := 792) (a := 2) dL_law_792 (by decide) ?_
      refine x_iadd (pc := 793) dL_law_793 ?_
      refine x_sld (pc := 794) rfl dL_law_794 (fun hb168 => ?_)
      refine lV_I (pc := 795) (As := [(.int (xs (s9.1 + (1:Int32)).toNatClampNeg)), (.int (xs (s9.1 + (2:Int32)).toNatClampNeg))]) (rest := [(.int q166.1)]) (ct_X10_squares (xs (s9.1 + (1:Int32)).toNatClampNeg) (xs (s9.1 + (2:Int32)).toNatClampNeg) q166.2) rfl xC10 rfl (by decide) ml_L_94 meX10_squares rfl ⟨prX10_squares, (Nat.le_of_ble_eq_true rfl), (Nat.le_of_ble_eq_true rfl), rfl, rfl⟩ (Nat.le_of_ble_eq_true rfl) (Nat.le_of_ble_eq_true rfl) (Nat.le_of_ble_eq_true rfl) dL_law_795 (fun v169 => ?_)
      refine x_icmp_eq (pc := 798) (tgt := 1135) dL_law_798 (by decide) (fun h170 => ?_) (fun h170 => ?_)
      · refine x_iinc (pc := 1135) (b := (s9.1 + 6)) (L' := [some (.ref 203), some (.ref 0), some (.ref 170), some (.int (s9.1 + 6))]) dL_law_1135 rfl rfl (Nat.le_of_ble_eq_true rfl) rfl rfl ?_
        refine x_goto (pc := 1138) (tgt := 18) dL_law_1138 (by decide) ?_
        have hz := hkk10 ((s9.1 + 6), q166.2)
        try dsimp only at hz
        exact hz
      · refine x_iconst (pc := 801) (a := 0) dL_law_801 (by decide) ?_
        exact x_zret (pc := 802) rfl (by decide) rfl dL_law_802 (Nat.le_of_ble_eq_true rfl) (Nat.le_of_ble_eq_true rfl)
    refine SP.ite (fun h171 => ?_) (fun h171 => ?_)
    · refine x_tsw_in (pc := 33) (tgt := 803) (off := 770) dL_law_33 (by rw [h171]; decide) (by rw [h171]; decide) (by rw [h171]; rfl) (by decide) ?_
      refine x_aload_n (pc := 803) dL_law_803 rfl ?_
      refine x_aload_n (pc := 804) dL_law_804 rfl ?_
      refine x_iload_n (pc := 805) dL_law_805 rfl ?_
      refine x_iconst (pc := 806) (a := 1) dL_law_806 (by decide) ?_
      refine x_iadd (pc := 807) dL_law_807 ?_
      refine x_sld (pc := 808) rfl dL_law_808 (fun hb172 => ?_)
      refine x_aload_n (pc := 809) dL_law_809 rfl ?_
      refine x_iload_n (pc := 810) dL_law_810 rfl ?_
      refine x_iconst (pc := 811) (a := 2) dL_law_811 (by decide) ?_
      refine x_iadd (pc := 812) dL_law_812 ?_
      refine x_sld (pc := 813) rfl dL_law_813 (fun hb173 => ?_)
      refine x_aload_n (pc := 814) dL_law_814 rfl ?_
      refine x_iload_n (pc := 815) dL_law_815 rfl ?_
      refine x_iconst (pc := 816) (a := 3) dL_law_816 (by decide) ?_
      refine x_iadd (pc := 817) dL_law_817 ?_
      refine x_sld (pc := 818) rfl dL_law_818 (fun hb174 => ?_)
      refine x_aload_n (pc := 819) dL_law_819 rfl ?_
      refine x_iload_n (pc := 820) dL_law_820 rfl ?_
      refine x_iconst (pc := 821) (a := 4) dL_law_821 (by decide) ?_
      refine x_iadd (pc := 822) dL_law_822 ?_
      refine x_sld (pc := 823) rfl dL_law_823 (fun hb175 => ?_)
      refine SP.jn 832 (fun (s177 : Int32) => [some (.ref 203), some (.ref 0), some (.ref 170), some (.int s9.1)]) (fun (s177 : Int32) => [(.int s177), (.int (xs (s9.1 + (3:Int32)).toNatClampNeg)), (.int (xs (s9.1 + (2:Int32)).toNatClampNeg)), (.int (xs (s9.1 + (1:Int32)).toNatClampNeg)), (.ref 0)]) (fun (s177 : Int32) => xwd s9.2) (fun kk176 hkk176 => ?_) (fun s177 => ?_)
      · try dsimp only
        refine x_if_eq (pc := 824) (tgt := 831) dL_law_824 (by decide) (fun h178 => ?_) (fun h178 => ?_)
        · refine x_iconst (pc := 831) (a := 0) dL_law_831 (by decide) ?_
          have hz := hkk176 (0:Int32)
          try dsimp only at hz
          exact hz
        · refine x_iconst (pc := 827) (a := 1) dL_law_827 (by decide) ?_
          refine x_goto (pc := 828) (tgt := 832) dL_law_828 (by decide) ?_
          have hz := hkk176 (1:Int32)
          try dsimp only at hz
          exact hz
      · try dsimp only
        refine lV_IM (pc := 832) (As := [(.int (xs (s9.1 + (1:Int32)).toNatClampNeg)), (.int (xs (s9.1 + (2:Int32)).toNatClampNeg)), (.int (xs (s9.1 + (3:Int32)).toNatClampNeg)), (.int s177)]) (rest := []) (ct_X9_valley (xs (s9.1 + (1:Int32)).toNatClampNeg) (xs (s9.1 + (2:Int32)).toNatClampNeg) (xs (s9.1 + (3:Int32)).toNatClampNeg) s177 s9.2) rfl xC9 rfl (by decide) ml_L_95 meX9_valley rfl ⟨prX9_valley, (Nat.le_of_ble_eq_true rfl), (Nat.le_of_ble_eq_true rfl), rfl, rfl⟩ (Nat.le_of_ble_eq_true rfl) (Nat.le_of_ble_eq_true rfl) (Nat.le_of_ble_eq_true rfl) dL_law_832 (fun q179 => ?_)
        refine x_aload_n (pc := 835) dL_law_835 rfl ?_
        refine x_aload_n (pc := 836) dL_law_836 rfl ?_
        refine x_iload_n (pc := 837) dL_law_837 rfl ?_
        refine x_iconst (pc := 838) (a := 1) dL_law_838 (by decide) ?_
        refine x_iadd (pc := 839) dL_law_839 ?_
        refine x_sld (pc := 840) rfl dL_law_840 (fun hb180 => ?_)
        refine x_aload_n (pc := 841) dL_law_841 rfl ?_
        refine x_iload_n (pc := 842) dL_law_842 rfl ?_
        refine x_iconst (pc := 843) (a := 2) dL_law_843 (by decide) ?_
        refine x_iadd (pc := 844) dL_law_844 ?_
        refine x_sld (pc := 845) rfl dL_law_845 (fun hb181 => ?_)
        refine x_aload_n (pc := 846) dL_law_846 rfl ?_
        refine x_iload_n (pc := 847) dL_law_847 rfl ?_
        refine x_iconst (pc := 848) (a := 3) dL_law_848 (by decide) ?_
        refine x_iadd (pc := 849) dL_law_849 ?_
        refine x_sld (pc := 850) rfl dL_law_850 (fun hb182 => ?_)
        refine x_aload_n (pc := 851) dL_law_851 rfl ?_
        refine x_iload_n (pc := 852) dL_law_852 rfl ?_
        refine x_iconst (pc := 853) (a := 4) dL_law_853 (by decide) ?_
        refine x_iadd (pc := 854) dL_law_854 ?_
        refine x_sld (pc := 855) rfl dL_law_855 (fun hb183 => ?_)
        refine SP.jn 864 (fun (s185 : Int32) => [some (.ref 203), some (.ref 0), some (.ref 170), some (.int s9.1)]) (fun (s185 : Int32) => [(.int s185), (.int (xs (s9.1 + (3:Int32)).toNatClampNeg)), (.int (xs (s9.1 + (2:Int32)).toNatClampNeg)), (.int (xs (s9.1 + (1:Int32)).toNatClampNeg)), (.ref 170), (.int q179.1)]) (fun (s185 : Int32) => xwd q179.2) (fun kk184 hkk184 => ?_) (fun s185 => ?_)
        · try dsimp only
          refine x_if_eq (pc := 856) (tgt := 863) dL_law_856 (by decide) (fun h186 => ?_) (fun h186 => ?_)
          · refine x_iconst (pc := 863) (a := 0) dL_law_863 (by decide) ?_
            have hz := hkk184 (0:Int32)
            try dsimp only at hz
            exact hz
          · refine x_iconst (pc := 859) (a := 1) dL_law_859 (by decide) ?_
            refine x_goto (pc := 860) (tgt := 864) dL_law_860 (by decide) ?_
            have hz := hkk184 (1:Int32)
            try dsimp only at hz
            exact hz
        · try dsimp only
          refine lV_IM (pc := 864) (As := [(.int (xs (s9.1 + (1:Int32)).toNatClampNeg)), (.int (xs (s9.1 + (2:Int32)).toNatClampNeg)), (.int (xs (s9.1 + (3:Int32)).toNatClampNeg)), (.int s185)]) (rest := [(.int q179.1)]) (ct_X10_valley (xs (s9.1 + (1:Int32)).toNatClampNeg) (xs (s9.1 + (2:Int32)).toNatClampNeg) (xs (s9.1 + (3:Int32)).toNatClampNeg) s185 q179.2) rfl xC10 rfl (by decide) ml_L_99 meX10_valley rfl ⟨prX10_valley, (Nat.le_of_ble_eq_true rfl), (Nat.le_of_ble_eq_true rfl), rfl, rfl⟩ (Nat.le_of_ble_eq_true rfl) (Nat.le_of_ble_eq_true rfl) (Nat.le_of_ble_eq_true rfl) dL_law_864 (fun q187 => ?_)
          refine x_icmp_eq (pc := 867) (tgt := 1135) dL_law_867 (by decide) (fun h188 => ?_) (fun h188 => ?_)
          · refine x_iinc (pc := 1135) (b := (s9.1 + 6)) (L' := [some (.ref 203), some (.ref 0), some (.ref 170), some (.int (s9.1 + 6))]) dL_law_1135 rfl rfl (Nat.le_of_ble_eq_true rfl) rfl rfl ?_
            refine x_goto (pc := 1138) (tgt := 18) dL_law_1138 (by decide) ?_
            have hz := hkk10 ((s9.1 + 6), q187.2)
            try dsimp only at hz
            exact hz
          · refine x_iconst (pc := 870) (a := 0) dL_law_870 (by decide) ?_
            exact x_zret (pc := 871) rfl (by decide) rfl dL_law_871 (Nat.le_of_ble_eq_true rfl) (Nat.le_of_ble_eq_true rfl)
    refine SP.ite (fun h189 => ?_) (fun h189 => ?_)
    · refine x_tsw_in (pc := 33) (tgt := 872) (off := 839) dL_law_33 (by rw [h189]; decide) (by rw [h189]; decide) (by rw [h189]; rfl) (by decide) ?_
      refine x_aload_n (pc := 872) dL_law_872 rfl ?_
      refine x_aload_n (pc := 873) dL_law_873 rfl ?_
      refine x_iload_n (pc := 874) dL_law_874 rfl ?_
      refine x_iconst (pc := 875) (a := 1) dL_law_875 (by decide) ?_
      refine x_iadd (pc := 876) dL_law_876 ?_
      refine x_sld (pc := 877) rfl dL_law_877 (fun hb190 => ?_)
      refine x_aload_n (pc := 878) dL_law_878 rfl ?_
      refine x_iload_n (pc := 879) dL_law_879 rfl ?_
      refine x_iconst (pc := 880) (a := 2) dL_law_880 (by decide) ?_
      refine x_iadd (pc := 881) dL_law_881 ?_
      refine x_sld (pc := 882) rfl dL_law_882 (fun hb191 => ?_)
      refine lV_IM (pc := 883) (As := [(.int (xs (s9.1 + (1:Int32)).toNatClampNeg)), (.int (xs (s9.1 + (2:Int32)).toNatClampNeg))]) (rest := []) (ct_X9_rain (xs (s9.1 + (1:Int32)).toNatClampNeg) (xs (s9.1 + (2:Int32)).toNatClampNeg) s9.2) rfl xC9 rfl (by decide) ml_L_100 meX9_rain rfl ⟨prX9_rain, (Nat.le_of_ble_eq_true rfl), (Nat.le_of_ble_eq_true rfl), rfl, rfl⟩ (Nat.le_of_ble_eq_true rfl) (Nat.le_of_ble_eq_true rfl) (Nat.le_of_ble_eq_true rfl) dL_law_883 (fun q192 => ?_)
      refine x_aload_n (pc := 886) dL_law_886 rfl ?_
      refine x_aload_n (pc := 887) dL_law_887 rfl ?_
      refine x_iload_n (pc := 888) dL_law_888 rfl ?_
      refine x_iconst (pc := 889) (a := 1) dL_law_889 (by decide) ?_
      refine x_iadd (pc := 890) dL_law_890 ?_
      refine x_sld (pc := 891) rfl dL_law_891 (fun hb193 => ?_)
      refine x_aload_n (pc := 892) dL_law_892 rfl ?_
      refine x_iload_n (pc := 893) dL_law_893 rfl ?_
      refine x_iconst (pc := 894) (a := 2) dL_law_894 (by decide) ?_
      refine x_iadd (pc := 895) dL_law_895 ?_
      refine x_sld (pc := 896) rfl dL_law_896 (fun hb194 => ?_)
      refine lV_IM (pc := 897) (As := [(.int (xs (s9.1 + (1:Int32)).toNatClampNeg)), (.int (xs (s9.1 + (2:Int32)).toNatClampNeg))]) (rest := [(.int q192.1)]) (ct_X10_rain (xs (s9.1 + (1:Int32)).toNatClampNeg) (xs (s9.1 + (2:Int32)).toNatClampNeg) q192.2) rfl xC10 rfl (by decide) ml_L_103 meX10_rain rfl ⟨prX10_rain, (Nat.le_of_ble_eq_true rfl), (Nat.le_of_ble_eq_true rfl), rfl, rfl⟩ (Nat.le_of_ble_eq_true rfl) (Nat.le_of_ble_eq_true rfl) (Nat.le_of_ble_eq_true rfl) dL_law_897 (fun q195 => ?_)
      refine x_icmp_eq (pc := 900) (tgt := 1135) dL_law_900 (by decide) (fun h196 => ?_) (fun h196 => ?_)
      · refine x_iinc (pc := 1135) (b := (s9.1 + 6)) (L' := [some (.ref 203), some (.ref 0), some (.ref 170), some (.int (s9.1 + 6))]) dL_law_1135 rfl rfl (Nat.le_of_ble_eq_true rfl) rfl rfl ?_
        refine x_goto (pc := 1138) (tgt := 18) dL_law_1138 (by decide) ?_
        have hz := hkk10 ((s9.1 + 6), q195.2)
        try dsimp only at hz
        exact hz
      · refine x_iconst (pc := 903) (a := 0) dL_law_903 (by decide) ?_
        exact x_zret (pc := 904) rfl (by decide) rfl dL_law_904 (Nat.le_of_ble_eq_true rfl) (Nat.le_of_ble_eq_true rfl)
    refine SP.ite (fun h197 => ?_) (fun h197 => ?_)
    · refine x_tsw_in (pc := 33) (tgt := 905) (off := 872) dL_law_33 (by rw [h197]; decide) (by rw [h197]; decide) (by rw [h197]; rfl) (by decide) ?_
      refine x_aload_n (pc := 905) dL_law_905 rfl ?_
      refine x_aload_n (pc := 906) dL_law_906 rfl ?_
      refine x_iload_n (pc := 907) dL_law_907 rfl ?_
      refine x_iconst (pc := 908) (a := 1) dL_law_908 (by decide) ?_
      refine x_iadd (pc := 909) dL_law_909 ?_
      refine x_sld (pc := 910) rfl dL_law_910 (fun hb198 => ?_)
      refine x_aload_n (pc := 911) dL_law_911 rfl ?_
      refine x_iload_n (pc := 912) dL_law_912 rfl ?_
      refine x_iconst (pc := 913) (a := 2) dL_law_913 (by decide) ?_
      refine x_iadd (pc := 914) dL_law_914 ?_
      refine x_sld (pc := 915) rfl dL_law_915 (fun hb199 => ?_)
      refine lV_IM (pc := 916) (As := [(.int (xs (s9.1 + (1:Int32)).toNatClampNeg)), (.int (xs (s9.1 + (2:Int32)).toNatClampNeg))]) (rest := []) (ct_X9_mean (xs (s9.1 + (1:Int32)).toNatClampNeg) (xs (s9.1 + (2:Int32)).toNatClampNeg) s9.2) rfl xC9 rfl (by decide) ml_L_104 meX9_mean rfl ⟨prX9_mean, (Nat.le_of_ble_eq_true rfl), (Nat.le_of_ble_eq_true rfl), rfl, rfl⟩ (Nat.le_of_ble_eq_true rfl) (Nat.le_of_ble_eq_true rfl) (Nat.le_of_ble_eq_true rfl) dL_law_916 (fun q200 => ?_)
      refine x_aload_n (pc := 919) dL_law_919 rfl ?_
      refine x_aload_n (pc := 920) dL_law_920 rfl ?_
      refine x_iload_n (pc := 921) dL_law_921 rfl ?_
      refine x_iconst (pc := 922) (a := 1) dL_law_922 (by decide) ?_
      refine x_iadd (pc := 923) dL_law_923 ?_
      refine x_sld (pc := 924) rfl dL_law_924 (fun hb201 => ?_)
      refine x_aload_n (pc := 925) dL_law_925 rfl ?_
      refine x_iload_n (pc := 926) dL_law_926 rfl ?_
      refine x_iconst (pc := 927) (a := 2) dL_law_927 (by decide) ?_
      refine x_iadd (pc := 928) dL_law_928 ?_
      refine x_sld (pc := 929) rfl dL_law_929 (fun hb202 => ?_)
      refine lV_IM (pc := 930) (As := [(.int (xs (s9.1 + (1:Int32)).toNatClampNeg)), (.int (xs (s9.1 + (2:Int32)).toNatClampNeg))]) (rest := [(.int q200.1)]) (ct_X10_mean (xs (s9.1 + (1:Int32)).toNatClampNeg) (xs (s9.1 + (2:Int32)).toNatClampNeg) q200.2) rfl xC10 rfl (by decide) ml_L_107 meX10_mean rfl ⟨prX10_mean, (Nat.le_of_ble_eq_true rfl), (Nat.le_of_ble_eq_true rfl), rfl, rfl⟩ (Nat.le_of_ble_eq_true rfl) (Nat.le_of_ble_eq_true rfl) (Nat.le_of_ble_eq_true rfl) dL_law_930 (fun q203 => ?_)
      refine x_icmp_eq (pc := 933) (tgt := 1135) dL_law_933 (by decide) (fun h204 => ?_) (fun h204 => ?_)
      · refine x_iinc (pc := 1135) (b := (s9.1 + 6)) (L' := [some (.ref 203), some (.ref 0), some (.ref 170), some (.int (s9.1 + 6))]) dL_law_1135 rfl rfl (Nat.le_of_ble_eq_true rfl) rfl rfl ?_
        refine x_goto (pc := 1138) (tgt := 18) dL_law_1138 (by decide) ?_
        have hz := hkk10 ((s9.1 + 6), q203.2)
        try dsimp only at hz
        exact hz
      · refine x_iconst (pc := 936) (a := 0) dL_law_936 (by decide) ?_
        exact x_zret (pc := 937) rfl (by decide) rfl dL_law_937 (Nat.le_of_ble_eq_true rfl) (Nat.le_of_ble_eq_true rfl)
    refine SP.ite (fun h205 => ?_) (fun h205 => ?_)
    · refine x_tsw_in (pc := 33) (tgt := 938) (off := 905) dL_law_33 (by rw [h205]; decide) (by rw [h205]; decide) (by rw [h205]; rfl) (by decide) ?_
      refine x_aload_n (pc := 938) dL_law_938 rfl ?_
      refine x_aload_n (pc := 939) dL_law_939 rfl ?_
      refine x_iload_n (pc := 940) dL_law_940 rfl ?_
      refine x_iconst (pc := 941) (a := 1) dL_law_941 (by decide) ?_
      refine x_iadd (pc := 942) dL_law_942 ?_
      refine x_sld (pc := 943) rfl dL_law_943 (fun hb206 => ?_)
      refine x_aload_n (pc := 944) dL_law_944 rfl ?_
      refine x_iload_n (pc := 945) dL_law_945 rfl ?_
      refine x_iconst (pc := 946) (a := 2) dL_law_946 (by decide) ?_
      refine x_iadd (pc := 947) dL_law_947 ?_
      refine x_sld (pc := 948) rfl dL_law_948 (fun hb207 => ?_)
      refine lV_JM (pc := 949) (As := [(.int (xs (s9.1 + (1:Int32)).toNatClampNeg)), (.int (xs (s9.1 + (2:Int32)).toNatClampNeg))]) (rest := []) (ct_X9_flow (xs (s9.1 + (1:Int32)).toNatClampNeg) (xs (s9.1 + (2:Int32)).toNatClampNeg) s9.2) rfl xC9 rfl (by decide) ml_L_108 meX9_flow rfl ⟨prX9_flow, (Nat.le_of_ble_eq_true rfl), (Nat.le_of_ble_eq_true rfl), rfl, rfl⟩ (Nat.le_of_ble_eq_true rfl) (Nat.le_of_ble_eq_true rfl) (Nat.le_of_ble_eq_true rfl) dL_law_949 (fun q208 => ?_)
      refine x_aload_n (pc := 952) dL_law_952 rfl ?_
      refine x_aload_n (pc := 953) dL_law_953 rfl ?_
      refine x_iload_n (pc := 954) dL_law_954 rfl ?_
      refine x_iconst (pc := 955) (a := 1) dL_law_955 (by decide) ?_
      refine x_iadd (pc := 956) dL_law_956 ?_
      refine x_sld (pc := 957) rfl dL_law_957 (fun hb209 => ?_)
      refine x_aload_n (pc := 958) dL_law_958 rfl ?_
      refine x_iload_n (pc := 959) dL_law_959 rfl ?_
      refine x_iconst (pc := 960) (a := 2) dL_law_960 (by decide) ?_
      refine x_iadd (pc := 961) dL_law_961 ?_
      refine x_sld (pc := 962) rfl dL_law_962 (fun hb210 => ?_)
      refine lV_JM (pc := 963) (As := [(.int (xs (s9.1 + (1:Int32)).toNatClampNeg)), (.int (xs (s9.1 + (2:Int32)).toNatClampNeg))]) (rest := [(.long q208.1)]) (ct_X10_flow (xs (s9.1 + (1:Int32)).toNatClampNeg) (xs (s9.1 + (2:Int32)).toNatClampNeg) q208.2) rfl xC10 rfl (by decide) ml_L_112 meX10_flow rfl ⟨prX10_flow, (Nat.le_of_ble_eq_true rfl), (Nat.le_of_ble_eq_true rfl), rfl, rfl⟩ (Nat.le_of_ble_eq_true rfl) (Nat.le_of_ble_eq_true rfl) (Nat.le_of_ble_eq_true rfl) dL_law_963 (fun q211 => ?_)
      refine x_lcmp (pc := 966) dL_law_966 ?_
      refine x_if_eq (pc := 967) (tgt := 1135) dL_law_967 (by decide) (fun h212 => ?_) (fun h212 => ?_)
      · refine x_iinc (pc := 1135) (b := (s9.1 + 6)) (L' := [some (.ref 203), some (.ref 0), some (.ref 170), some (.int (s9.1 + 6))]) dL_law_1135 rfl rfl (Nat.le_of_ble_eq_true rfl) rfl rfl ?_
        refine x_goto (pc := 1138) (tgt := 18) dL_law_1138 (by decide) ?_
        have hz := hkk10 ((s9.1 + 6), q211.2)
        try dsimp only at hz
        exact hz
      · refine x_iconst (pc := 970) (a := 0) dL_law_970 (by decide) ?_
        exact x_zret (pc := 971) rfl (by decide) rfl dL_law_971 (Nat.le_of_ble_eq_true rfl) (Nat.le_of_ble_eq_true rfl)
    refine SP.ite (fun h213 => ?_) (fun h213 => ?_)
    · refine x_tsw_in (pc := 33) (tgt := 972) (off := 939) dL_law_33 (by rw [h213]; decide) (by rw [h213]; decide) (by rw [h213]; rfl) (by decide) ?_
      refine x_aload_n (pc := 972) dL_law_972 rfl ?_
      refine x_aload_n (pc := 973) dL_law_973 rfl ?_
      refine x_iload_n (pc := 974) dL_law_974 rfl ?_
      refine x_iconst (pc := 975) (a := 1) dL_law_975 (by decide) ?_
      refine x_iadd (pc := 976) dL_law_976 ?_
      refine x_sld (pc := 977) rfl dL_law_977 (fun hb214 => ?_)
      refine x_aload_n (pc := 978) dL_law_978 rfl ?_
      refine x_iload_n (pc := 979) dL_law_979 rfl ?_
      refine x_iconst (pc := 980) (a := 2) dL_law_980 (by decide) ?_
      refine x_iadd (pc := 981) dL_law_981 ?_
      refine x_sld (pc := 982) rfl dL_law_982 (fun hb215 => ?_)
      refine x_i2l (pc := 983) dL_law_983 ?_
      refine x_bipush (pc := 984) (a := 32) dL_law_984 (by decide) ?_
      refine x_lshl (pc := 986) dL_law_986 ?_
      refine x_aload_n (pc := 987) dL_law_987 rfl ?_
      refine x_iload_n (pc := 988) dL_law_988 rfl ?_
      refine x_iconst (pc := 989) (a := 3) dL_law_989 (by decide) ?_
      refine x_iadd (pc := 990) dL_law_990 ?_
      refine x_sld (pc := 991) rfl dL_law_991 (fun hb216 => ?_)
      refine x_i2l (pc := 992) dL_law_992 ?_
      refine x_ldc2 (pc := 993) (a := 4294967295) dL_law_993 rfl wL_1002 ?_
      refine x_land (pc := 996) dL_law_996 ?_
      refine x_lor (pc := 997) dL_law_997 ?_
      refine lV_IM (pc := 998) (As := [(.int (xs (s9.1 + (1:Int32)).toNatClampNeg)), (.long (((xs (s9.1 + (2:Int32)).toNatClampNeg).toInt64 <<< ((32:Int32).toInt64 &&& 63)) ||| ((xs (s9.1 + (3:Int32)).toNatClampNeg).toInt64 &&& (4294967295:Int64))))]) (rest := []) (ct_X9_ahead (xs (s9.1 + (1:Int32)).toNatClampNeg) (((xs (s9.1 + (2:Int32)).toNatClampNeg).toInt64 <<< ((32:Int32).toInt64 &&& 63)) ||| ((xs (s9.1 + (3:Int32)).toNatClampNeg).toInt64 &&& (4294967295:Int64))) s9.2) rfl xC9 rfl (by decide) ml_L_115 meX9_ahead rfl ⟨prX9_ahead, (Nat.le_of_ble_eq_true rfl), (Nat.le_of_ble_eq_true rfl), rfl, rfl⟩ (Nat.le_of_ble_eq_true rfl) (Nat.le_of_ble_eq_true rfl) (Nat.le_of_ble_eq_true rfl) dL_law_998 (fun q217 => ?_)
      refine x_aload_n (pc := 1001) dL_law_1001 rfl ?_
      refine x_aload_n (pc := 1002) dL_law_1002 rfl ?_
      refine x_iload_n (pc := 1003) dL_law_1003 rfl ?_
      refine x_iconst (pc := 1004) (a := 1) dL_law_1004 (by decide) ?_
      refine x_iadd (pc := 1005) dL_law_1005 ?_
      refine x_sld (pc := 1006) rfl dL_law_1006 (fun hb218 => ?_)
      refine x_aload_n (pc := 1007) dL_law_1007 rfl ?_
      refine x_iload_n (pc := 1008) dL_law_1008 rfl ?_
      refine x_iconst (pc := 1009) (a := 2) dL_law_1009 (by decide) ?_
      refine x_iadd (pc := 1010) dL_law_1010 ?_
      refine x_sld (pc := 1011) rfl dL_law_1011 (fun hb219 => ?_)
      refine x_i2l (pc := 1012) dL_law_1012 ?_
      refine x_bipush (pc := 1013) (a := 32) dL_law_1013 (by decide) ?_
      refine x_lshl (pc := 1015) dL_law_1015 ?_
      refine x_aload_n (pc := 1016) dL_law_1016 rfl ?_
      refine x_iload_n (pc := 1017) dL_law_1017 rfl ?_
      refine x_iconst (pc := 1018) (a := 3) dL_law_1018 (by decide) ?_
      refine x_iadd (pc := 1019) dL_law_1019 ?_
      refine x_sld (pc := 1020) rfl dL_law_1020 (fun hb220 => ?_)
      refine x_i2l (pc := 1021) dL_law_1021 ?_
      refine x_ldc2 (pc := 1022) (a := 4294967295) dL_law_1022 rfl wL_1002 ?_
      refine x_land (pc := 1025) dL_law_1025 ?_
      refine x_lor (pc := 1026) dL_law_1026 ?_
      refine lV_IM (pc := 1027) (As := [(.int (xs (s9.1 + (1:Int32)).toNatClampNeg)), (.long (((xs (s9.1 + (2:Int32)).toNatClampNeg).toInt64 <<< ((32:Int32).toInt64 &&& 63)) ||| ((xs (s9.1 + (3:Int32)).toNatClampNeg).toInt64 &&& (4294967295:Int64))))]) (rest := [(.int q217.1)]) (ct_X10_ahead (xs (s9.1 + (1:Int32)).toNatClampNeg) (((xs (s9.1 + (2:Int32)).toNatClampNeg).toInt64 <<< ((32:Int32).toInt64 &&& 63)) ||| ((xs (s9.1 + (3:Int32)).toNatClampNeg).toInt64 &&& (4294967295:Int64))) q217.2) rfl xC10 rfl (by decide) ml_L_119 meX10_ahead rfl ⟨prX10_ahead, (Nat.le_of_ble_eq_true rfl), (Nat.le_of_ble_eq_true rfl), rfl, rfl⟩ (Nat.le_of_ble_eq_true rfl) (Nat.le_of_ble_eq_true rfl) (Nat.le_of_ble_eq_true rfl) dL_law_1027 (fun q221 => ?_)
      refine x_icmp_eq (pc := 1030) (tgt := 1135) dL_law_1030 (by decide) (fun h222 => ?_) (fun h222 => ?_)
      · refine x_iinc (pc := 1135) (b := (s9.1 + 6)) (L' := [some (.ref 203), some (.ref 0), some (.ref 170), some (.int (s9.1 + 6))]) dL_law_1135 rfl rfl (Nat.le_of_ble_eq_true rfl) rfl rfl ?_
        refine x_goto (pc := 1138) (tgt := 18) dL_law_1138 (by decide) ?_
        have hz := hkk10 ((s9.1 + 6), q221.2)
        try dsimp only at hz
        exact hz
      · refine x_iconst (pc := 1033) (a := 0) dL_law_1033 (by decide) ?_
        exact x_zret (pc := 1034) rfl (by decide) rfl dL_law_1034 (Nat.le_of_ble_eq_true rfl) (Nat.le_of_ble_eq_true rfl)
    refine SP.ite (fun h223 => ?_) (fun h223 => ?_)
    · refine x_tsw_in (pc := 33) (tgt := 1035) (off := 1002) dL_law_33 (by rw [h223]; decide) (by rw [h223]; decide) (by rw [h223]; rfl) (by decide) ?_
      refine x_aload_n (pc := 1035) dL_law_1035 rfl ?_
      refine x_aload_n (pc := 1036) dL_law_1036 rfl ?_
      refine x_iload_n (pc := 1037) dL_law_1037 rfl ?_
      refine x_iconst (pc := 1038) (a := 1) dL_law_1038 (by decide) ?_
      refine x_iadd (pc := 1039) dL_law_1039 ?_
      refine x_sld (pc := 1040) rfl dL_law_1040 (fun hb224 => ?_)
      refine x_aload_n (pc := 1041) dL_law_1041 rfl ?_
      refine x_iload_n (pc := 1042) dL_law_1042 rfl ?_
      refine x_iconst (pc := 1043) (a := 2) dL_law_1043 (by decide) ?_
      refine x_iadd (pc := 1044) dL_law_1044 ?_
      refine x_sld (pc := 1045) rfl dL_law_1045 (fun hb225 => ?_)
      refine x_aload_n (pc := 1046) dL_law_1046 rfl ?_
      refine x_iload_n (pc := 1047) dL_law_1047 rfl ?_
      refine x_iconst (pc := 1048) (a := 3) dL_law_1048 (by decide) ?_
      refine x_iadd (pc := 1049) dL_law_1049 ?_
      refine x_sld (pc := 1050) rfl dL_law_1050 (fun hb226 => ?_)
      refine lV_IM (pc := 1051) (As := [(.int (xs (s9.1 + (1:Int32)).toNatClampNeg)), (.int (xs (s9.1 + (2:Int32)).toNatClampNeg)), (.int (xs (s9.1 + (3:Int32)).toNatClampNeg))]) (rest := []) (ct_X9_week (xs (s9.1 + (1:Int32)).toNatClampNeg) (xs (s9.1 + (2:Int32)).toNatClampNeg) (xs (s9.1 + (3:Int32)).toNatClampNeg) s9.2) rfl xC9 rfl (by decide) ml_L_120 meX9_week rfl ⟨prX9_week, (Nat.le_of_ble_eq_true rfl), (Nat.le_of_ble_eq_true rfl), rfl, rfl⟩ (Nat.le_of_ble_eq_true rfl) (Nat.le_of_ble_eq_true rfl) (Nat.le_of_ble_eq_true rfl) dL_law_1051 (fun q227 => ?_)
      refine x_aload_n (pc := 1054) dL_law_1054 rfl ?_
      refine x_aload_n (pc := 1055) dL_law_1055 rfl ?_
      refine x_iload_n (pc := 1056) dL_law_1056 rfl ?_
      refine x_iconst (pc := 1057) (a := 1) dL_law_1057 (by decide) ?_
      refine x_iadd (pc := 1058) dL_law_1058 ?_
      refine x_sld (pc := 1059) rfl dL_law_1059 (fun hb228 => ?_)
      refine x_aload_n (pc := 1060) dL_law_1060 rfl ?_
      refine x_iload_n (pc := 1061) dL_law_1061 rfl ?_
      refine x_iconst (pc := 1062) (a := 2) dL_law_1062 (by decide) ?_
      refine x_iadd (pc := 1063) dL_law_1063 ?_
      refine x_sld (pc := 1064) rfl dL_law_1064 (fun hb229 => ?_)
      refine x_aload_n (pc := 1065) dL_law_1065 rfl ?_
      refine x_iload_n (pc := 1066) dL_law_1066 rfl ?_
      refine x_iconst (pc := 1067) (a := 3) dL_law_1067 (by decide) ?_
      refine x_iadd (pc := 1068) dL_law_1068 ?_
      refine x_sld (pc := 1069) rfl dL_law_1069 (fun hb230 => ?_)
      refine lV_IM (pc := 1070) (As := [(.int (xs (s9.1 + (1:Int32)).toNatClampNeg)), (.int (xs (s9.1 + (2:Int32)).toNatClampNeg)), (.int (xs (s9.1 + (3:Int32)).toNatClampNeg))]) (rest := [(.int q227.1)]) (ct_X10_week (xs (s9.1 + (1:Int32)).toNatClampNeg) (xs (s9.1 + (2:Int32)).toNatClampNeg) (xs (s9.1 + (3:Int32)).toNatClampNeg) q227.2) rfl xC10 rfl (by decide) ml_L_123 meX10_week rfl ⟨prX10_week, (Nat.le_of_ble_eq_true rfl), (Nat.le_of_ble_eq_true rfl), rfl, rfl⟩ (Nat.le_of_ble_eq_true rfl) (Nat.le_of_ble_eq_true rfl) (Nat.le_of_ble_eq_true rfl) dL_law_1070 (fun q231 => ?_)
      refine x_icmp_eq (pc := 1073) (tgt := 1135) dL_law_1073 (by decide) (fun h232 => ?_) (fun h232 => ?_)
      · refine x_iinc (pc := 1135) (b := (s9.1 + 6)) (L' := [some (.ref 203), some (.ref 0), some (.ref 170), some (.int (s9.1 + 6))]) dL_law_1135 rfl rfl (Nat.le_of_ble_eq_true rfl) rfl rfl ?_
        refine x_goto (pc := 1138) (tgt := 18) dL_law_1138 (by decide) ?_
        have hz := hkk10 ((s9.1 + 6), q231.2)
        try dsimp only at hz
        exact hz
      · refine x_iconst (pc := 1076) (a := 0) dL_law_1076 (by decide) ?_
        exact x_zret (pc := 1077) rfl (by decide) rfl dL_law_1077 (Nat.le_of_ble_eq_true rfl) (Nat.le_of_ble_eq_true rfl)
    refine SP.ite (fun h233 => ?_) (fun h233 => ?_)
    · refine x_tsw_in (pc := 33) (tgt := 1078) (off := 1045) dL_law_33 (by rw [h233]; decide) (by rw [h233]; decide) (by rw [h233]; rfl) (by decide) ?_
      refine x_aload_n (pc := 1078) dL_law_1078 rfl ?_
      refine x_aload_n (pc := 1079) dL_law_1079 rfl ?_
      refine x_iload_n (pc := 1080) dL_law_1080 rfl ?_
      refine x_iconst (pc := 1081) (a := 1) dL_law_1081 (by decide) ?_
      refine x_iadd (pc := 1082) dL_law_1082 ?_
      refine x_sld (pc := 1083) rfl dL_law_1083 (fun hb234 => ?_)
      refine lV_IM (pc := 1084) (As := [(.int (xs (s9.1 + (1:Int32)).toNatClampNeg))]) (rest := []) (ct_X9_cleft (xs (s9.1 + (1:Int32)).toNatClampNeg) s9.2) rfl xC9 rfl (by decide) ml_L_124 meX9_cleft rfl ⟨prX9_cleft, (Nat.le_of_ble_eq_true rfl), (Nat.le_of_ble_eq_true rfl), rfl, rfl⟩ (Nat.le_of_ble_eq_true rfl) (Nat.le_of_ble_eq_true rfl) (Nat.le_of_ble_eq_true rfl) dL_law_1084 (fun q235 => ?_)
      refine x_aload_n (pc := 1087) dL_law_1087 rfl ?_
      refine x_aload_n (pc := 1088) dL_law_1088 rfl ?_
      refine x_iload_n (pc := 1089) dL_law_1089 rfl ?_
      refine x_iconst (pc := 1090) (a := 1) dL_law_1090 (by decide) ?_
      refine x_iadd (pc := 1091) dL_law_1091 ?_
      refine x_sld (pc := 1092) rfl dL_law_1092 (fun hb236 => ?_)
      refine lV_IM (pc := 1093) (As := [(.int (xs (s9.1 + (1:Int32)).toNatClampNeg))]) (rest := [(.int q235.1)]) (ct_X10_cleft (xs (s9.1 + (1:Int32)).toNatClampNeg) q235.2) rfl xC10 rfl (by decide) ml_L_127 meX10_cleft rfl ⟨prX10_cleft, (Nat.le_of_ble_eq_true rfl), (Nat.le_of_ble_eq_true rfl), rfl, rfl⟩ (Nat.le_of_ble_eq_true rfl) (Nat.le_of_ble_eq_true rfl) (Nat.le_of_ble_eq_true rfl) dL_law_1093 (fun q237 => ?_)
      refine x_icmp_eq (pc := 1096) (tgt := 1135) dL_law_1096 (by decide) (fun h238 => ?_) (fun h238 => ?_)
      · refine x_iinc (pc := 1135) (b := (s9.1 + 6)) (L' := [some (.ref 203), some (.ref 0), some (.ref 170), some (.int (s9.1 + 6))]) dL_law_1135 rfl rfl (Nat.le_of_ble_eq_true rfl) rfl rfl ?_
        refine x_goto (pc := 1138) (tgt := 18) dL_law_1138 (by decide) ?_
        have hz := hkk10 ((s9.1 + 6), q237.2)
        try dsimp only at hz
        exact hz
      · refine x_iconst (pc := 1099) (a := 0) dL_law_1099 (by decide) ?_
        exact x_zret (pc := 1100) rfl (by decide) rfl dL_law_1100 (Nat.le_of_ble_eq_true rfl) (Nat.le_of_ble_eq_true rfl)
    refine SP.ite (fun h239 => ?_) (fun h239 => ?_)
    · refine x_tsw_in (pc := 33) (tgt := 1101) (off := 1068) dL_law_33 (by rw [h239]; decide) (by rw [h239]; decide) (by rw [h239]; rfl) (by decide) ?_
      refine x_aload_n (pc := 1101) dL_law_1101 rfl ?_
      refine x_aload_n (pc := 1102) dL_law_1102 rfl ?_
      refine x_iload_n (pc := 1103) dL_law_1103 rfl ?_
      refine x_iconst (pc := 1104) (a := 1) dL_law_1104 (by decide) ?_
      refine x_iadd (pc := 1105) dL_law_1105 ?_
      refine x_sld (pc := 1106) rfl dL_law_1106 (fun hb240 => ?_)
      refine x_aload_n (pc := 1107) dL_law_1107 rfl ?_
      refine x_iload_n (pc := 1108) dL_law_1108 rfl ?_
      refine x_iconst (pc := 1109) (a := 2) dL_law_1109 (by decide) ?_
      refine x_iadd (pc := 1110) dL_law_1110 ?_
      refine x_sld (pc := 1111) rfl dL_law_1111 (fun hb241 => ?_)
      refine lV_JM (pc := 1112) (As := [(.int (xs (s9.1 + (1:Int32)).toNatClampNeg)), (.int (xs (s9.1 + (2:Int32)).toNatClampNeg))]) (rest := []) (ct_X9_misses (xs (s9.1 + (1:Int32)).toNatClampNeg) (xs (s9.1 + (2:Int32)).toNatClampNeg) s9.2) rfl xC9 rfl (by decide) ml_L_128 meX9_misses rfl ⟨prX9_misses, (Nat.le_of_ble_eq_true rfl), (Nat.le_of_ble_eq_true rfl), rfl, rfl⟩ (Nat.le_of_ble_eq_true rfl) (Nat.le_of_ble_eq_true rfl) (Nat.le_of_ble_eq_true rfl) dL_law_1112 (fun q242 => ?_)
      refine x_aload_n (pc := 1115) dL_law_1115 rfl ?_
      refine x_aload_n (pc := 1116) dL_law_1116 rfl ?_
      refine x_iload_n (pc := 1117) dL_law_1117 rfl ?_
      refine x_iconst (pc := 1118) (a := 1) dL_law_1118 (by decide) ?_
      refine x_iadd (pc := 1119) dL_law_1119 ?_
      refine x_sld (pc := 1120) rfl dL_law_1120 (fun hb243 => ?_)
      refine x_aload_n (pc := 1121) dL_law_1121 rfl ?_
      refine x_iload_n (pc := 1122) dL_law_1122 rfl ?_
      refine x_iconst (pc := 1123) (a := 2) dL_law_1123 (by decide) ?_
      refine x_iadd (pc := 1124) dL_law_1124 ?_
      refine x_sld (pc := 1125) rfl dL_law_1125 (fun hb244 => ?_)
      refine lV_JM (pc := 1126) (As := [(.int (xs (s9.1 + (1:Int32)).toNatClampNeg)), (.int (xs (s9.1 + (2:Int32)).toNatClampNeg))]) (rest := [(.long q242.1)]) (ct_X10_misses (xs (s9.1 + (1:Int32)).toNatClampNeg) (xs (s9.1 + (2:Int32)).toNatClampNeg) q242.2) rfl xC10 rfl (by decide) ml_L_131 meX10_misses rfl ⟨prX10_misses, (Nat.le_of_ble_eq_true rfl), (Nat.le_of_ble_eq_true rfl), rfl, rfl⟩ (Nat.le_of_ble_eq_true rfl) (Nat.le_of_ble_eq_true rfl) (Nat.le_of_ble_eq_true rfl) dL_law_1126 (fun q245 => ?_)
      refine x_lcmp (pc := 1129) dL_law_1129 ?_
      refine x_if_eq (pc := 1130) (tgt := 1135) dL_law_1130 (by decide) (fun h246 => ?_) (fun h246 => ?_)
      · refine x_iinc (pc := 1135) (b := (s9.1 + 6)) (L' := [some (.ref 203), some (.ref 0), some (.ref 170), some (.int (s9.1 + 6))]) dL_law_1135 rfl rfl (Nat.le_of_ble_eq_true rfl) rfl rfl ?_
        refine x_goto (pc := 1138) (tgt := 18) dL_law_1138 (by decide) ?_
        have hz := hkk10 ((s9.1 + 6), q245.2)
        try dsimp only at hz
        exact hz
      · refine x_iconst (pc := 1133) (a := 0) dL_law_1133 (by decide) ?_
        exact x_zret (pc := 1134) rfl (by decide) rfl dL_law_1134 (Nat.le_of_ble_eq_true rfl) (Nat.le_of_ble_eq_true rfl)
    refine x_tsw_out (pc := 33) (tgt := 1135) dL_law_33 (by have a0 := lv_neT h15 (a := 0) rfl; have a1 := lv_neT h29 (a := 1) rfl; have a2 := lv_neT h35 (a := 2) rfl; have a3 := lv_neT h43 (a := 3) rfl; have a4 := lv_neT h51 (a := 4) rfl; have a5 := lv_neT h59 (a := 5) rfl; have a6 := lv_neT h67 (a := 6) rfl; have a7 := lv_neT h75 (a := 7) rfl; have a8 := lv_neT h85 (a := 8) rfl; have a9 := lv_neT h89 (a := 9) rfl; have a10 := lv_neT h93 (a := 10) rfl; have a11 := lv_neT h101 (a := 11) rfl; have a12 := lv_neT h109 (a := 12) rfl; have a13 := lv_neT h119 (a := 13) rfl; have a14 := lv_neT h127 (a := 14) rfl; have a15 := lv_neT h135 (a := 15) rfl; have a16 := lv_neT h143 (a := 16) rfl; have a17 := lv_neT h153 (a := 17) rfl; have a18 := lv_neT h163 (a := 18) rfl; have a19 := lv_neT h171 (a := 19) rfl; have a20 := lv_neT h189 (a := 20) rfl; have a21 := lv_neT h197 (a := 21) rfl; have a22 := lv_neT h205 (a := 22) rfl; have a23 := lv_neT h213 (a := 23) rfl; have a24 := lv_neT h223 (a := 24) rfl; have a25 := lv_neT h233 (a := 25) rfl; have a26 := lv_neT h239 (a := 26) rfl; omega) (by decide) ?_
    refine x_iinc (pc := 1135) (b := (s9.1 + 6)) (L' := [some (.ref 203), some (.ref 0), some (.ref 170), some (.int (s9.1 + 6))]) dL_law_1135 rfl rfl (Nat.le_of_ble_eq_true rfl) rfl rfl ?_
    refine x_goto (pc := 1138) (tgt := 18) dL_law_1138 (by decide) ?_
    have hz := hkk10 ((s9.1 + 6), s9.2)
    try dsimp only at hz
    exact hz

