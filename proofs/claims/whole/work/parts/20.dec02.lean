theorem d_M_body_0 : decode b_M_body 0 = .ok (.iload_n 1, 1) := by decide +kernel
theorem d_M_body_1 : decode b_M_body 1 = .ok (.iconst 0, 1) := by decide +kernel
theorem d_M_body_2 : decode b_M_body 2 = .ok (.bipush 7, 2) := by decide +kernel
theorem d_M_body_4 : decode b_M_body 4 = .ok (.invokestatic 153, 3) := by decide +kernel
theorem d_M_body_7 : decode b_M_body 7 = .ok (.ifCond .ne 5, 3) := by decide +kernel
theorem d_M_body_10 : decode b_M_body 10 = .ok (.iconst (-1), 1) := by decide +kernel
theorem d_M_body_11 : decode b_M_body 11 = .ok (.ireturn, 1) := by decide +kernel
theorem d_M_body_12 : decode b_M_body 12 = .ok (.aload_n 0, 1) := by decide +kernel
theorem d_M_body_13 : decode b_M_body 13 = .ok (.getfield 382, 3) := by decide +kernel
theorem d_M_body_16 : decode b_M_body 16 = .ok (.bipush 50, 2) := by decide +kernel
theorem d_M_body_18 : decode b_M_body 18 = .ok (.if_icmp .ne 6, 3) := by decide +kernel
theorem d_M_body_21 : decode b_M_body 21 = .ok (.bipush (-3), 2) := by decide +kernel
theorem d_M_body_23 : decode b_M_body 23 = .ok (.ireturn, 1) := by decide +kernel
theorem d_M_body_24 : decode b_M_body 24 = .ok (.aload_n 0, 1) := by decide +kernel
theorem d_M_body_25 : decode b_M_body 25 = .ok (.getfield 128, 3) := by decide +kernel
theorem d_M_body_28 : decode b_M_body 28 = .ok (.aload_n 0, 1) := by decide +kernel
theorem d_M_body_29 : decode b_M_body 29 = .ok (.getfield 382, 3) := by decide +kernel
theorem d_M_body_32 : decode b_M_body 32 = .ok (.iload_n 1, 1) := by decide +kernel
theorem d_M_body_33 : decode b_M_body 33 = .ok (.iastore, 1) := by decide +kernel
theorem d_M_body_34 : decode b_M_body 34 = .ok (.aload_n 0, 1) := by decide +kernel
theorem d_M_body_35 : decode b_M_body 35 = .ok (.dup, 1) := by decide +kernel
theorem d_M_body_36 : decode b_M_body 36 = .ok (.getfield 382, 3) := by decide +kernel
theorem d_M_body_39 : decode b_M_body 39 = .ok (.iconst 1, 1) := by decide +kernel
theorem d_M_body_40 : decode b_M_body 40 = .ok (.iadd, 1) := by decide +kernel
theorem d_M_body_41 : decode b_M_body 41 = .ok (.putfield 382, 3) := by decide +kernel
theorem d_M_body_44 : decode b_M_body 44 = .ok (.aload_n 0, 1) := by decide +kernel
theorem d_M_body_45 : decode b_M_body 45 = .ok (.getfield 382, 3) := by decide +kernel
theorem d_M_body_48 : decode b_M_body 48 = .ok (.iconst 1, 1) := by decide +kernel
theorem d_M_body_49 : decode b_M_body 49 = .ok (.isub, 1) := by decide +kernel
theorem d_M_body_50 : decode b_M_body 50 = .ok (.ireturn, 1) := by decide +kernel
theorem d_M_look_0 : decode b_M_look 0 = .ok (.aload_n 0, 1) := by decide +kernel
theorem d_M_look_1 : decode b_M_look 1 = .ok (.getfield 197, 3) := by decide +kernel
theorem d_M_look_4 : decode b_M_look 4 = .ok (.aload_n 0, 1) := by decide +kernel
theorem d_M_look_5 : decode b_M_look 5 = .ok (.getfield 194, 3) := by decide +kernel
theorem d_M_look_8 : decode b_M_look 8 = .ok (.if_icmp .ge 15, 3) := by decide +kernel
theorem d_M_look_11 : decode b_M_look 11 = .ok (.aload_n 0, 1) := by decide +kernel
theorem d_M_look_12 : decode b_M_look 12 = .ok (.getfield 59, 3) := by decide +kernel
theorem d_M_look_15 : decode b_M_look 15 = .ok (.aload_n 0, 1) := by decide +kernel
theorem d_M_look_16 : decode b_M_look 16 = .ok (.getfield 197, 3) := by decide +kernel
theorem d_M_look_19 : decode b_M_look 19 = .ok (.baload, 1) := by decide +kernel
theorem d_M_look_20 : decode b_M_look 20 = .ok (.goto 4, 3) := by decide +kernel
theorem d_M_look_23 : decode b_M_look 23 = .ok (.iconst (-1), 1) := by decide +kernel
theorem d_M_look_24 : decode b_M_look 24 = .ok (.ireturn, 1) := by decide +kernel
theorem d_M_wrong_0 : decode b_M_wrong 0 = .ok (.aload_n 0, 1) := by decide +kernel
theorem d_M_wrong_1 : decode b_M_wrong 1 = .ok (.getfield 200, 3) := by decide +kernel
theorem d_M_wrong_4 : decode b_M_wrong 4 = .ok (.ifCond .ge 11, 3) := by decide +kernel
theorem d_M_wrong_7 : decode b_M_wrong 7 = .ok (.aload_n 0, 1) := by decide +kernel
theorem d_M_wrong_8 : decode b_M_wrong 8 = .ok (.aload_n 0, 1) := by decide +kernel
theorem d_M_wrong_9 : decode b_M_wrong 9 = .ok (.getfield 197, 3) := by decide +kernel
theorem d_M_wrong_12 : decode b_M_wrong 12 = .ok (.putfield 200, 3) := by decide +kernel
theorem d_M_wrong_15 : decode b_M_wrong 15 = .ok (.return_, 1) := by decide +kernel
theorem d_M_figure_0 : decode b_M_figure 0 = .ok (.iconst 0, 1) := by decide +kernel
theorem d_M_figure_1 : decode b_M_figure 1 = .ok (.istore_n 1, 1) := by decide +kernel
theorem d_M_figure_2 : decode b_M_figure 2 = .ok (.iconst 0, 1) := by decide +kernel
theorem d_M_figure_3 : decode b_M_figure 3 = .ok (.istore_n 2, 1) := by decide +kernel
theorem d_M_figure_4 : decode b_M_figure 4 = .ok (.iload_n 2, 1) := by decide +kernel
theorem d_M_figure_5 : decode b_M_figure 5 = .ok (.iconst 4, 1) := by decide +kernel
theorem d_M_figure_6 : decode b_M_figure 6 = .ok (.if_icmp .ge 46, 3) := by decide +kernel
theorem d_M_figure_9 : decode b_M_figure 9 = .ok (.aload_n 0, 1) := by decide +kernel
theorem d_M_figure_10 : decode b_M_figure 10 = .ok (.invokevirtual 212, 3) := by decide +kernel
theorem d_M_figure_13 : decode b_M_figure 13 = .ok (.bipush 48, 2) := by decide +kernel
theorem d_M_figure_15 : decode b_M_figure 15 = .ok (.bipush 57, 2) := by decide +kernel
theorem d_M_figure_17 : decode b_M_figure 17 = .ok (.invokestatic 153, 3) := by decide +kernel
theorem d_M_figure_20 : decode b_M_figure 20 = .ok (.ifCond .eq 32, 3) := by decide +kernel
theorem d_M_figure_23 : decode b_M_figure 23 = .ok (.bipush 10, 2) := by decide +kernel
theorem d_M_figure_25 : decode b_M_figure 25 = .ok (.iload_n 1, 1) := by decide +kernel
theorem d_M_figure_26 : decode b_M_figure 26 = .ok (.imul, 1) := by decide +kernel
theorem d_M_figure_27 : decode b_M_figure 27 = .ok (.aload_n 0, 1) := by decide +kernel
theorem d_M_figure_28 : decode b_M_figure 28 = .ok (.invokevirtual 212, 3) := by decide +kernel
theorem d_M_figure_31 : decode b_M_figure 31 = .ok (.iadd, 1) := by decide +kernel
theorem d_M_figure_32 : decode b_M_figure 32 = .ok (.bipush 48, 2) := by decide +kernel
theorem d_M_figure_34 : decode b_M_figure 34 = .ok (.isub, 1) := by decide +kernel
theorem d_M_figure_35 : decode b_M_figure 35 = .ok (.istore_n 1, 1) := by decide +kernel
theorem d_M_figure_36 : decode b_M_figure 36 = .ok (.iinc 2 1, 3) := by decide +kernel
theorem d_M_figure_39 : decode b_M_figure 39 = .ok (.aload_n 0, 1) := by decide +kernel
theorem d_M_figure_40 : decode b_M_figure 40 = .ok (.dup, 1) := by decide +kernel
theorem d_M_figure_41 : decode b_M_figure 41 = .ok (.getfield 197, 3) := by decide +kernel
theorem d_M_figure_44 : decode b_M_figure 44 = .ok (.iconst 1, 1) := by decide +kernel
theorem d_M_figure_45 : decode b_M_figure 45 = .ok (.iadd, 1) := by decide +kernel
theorem d_M_figure_46 : decode b_M_figure 46 = .ok (.putfield 197, 3) := by decide +kernel
theorem d_M_figure_49 : decode b_M_figure 49 = .ok (.goto (-45), 3) := by decide +kernel
theorem d_M_figure_52 : decode b_M_figure 52 = .ok (.iload_n 2, 1) := by decide +kernel
theorem d_M_figure_53 : decode b_M_figure 53 = .ok (.ifCond .eq 17, 3) := by decide +kernel
theorem d_M_figure_56 : decode b_M_figure 56 = .ok (.aload_n 0, 1) := by decide +kernel
theorem d_M_figure_57 : decode b_M_figure 57 = .ok (.invokevirtual 212, 3) := by decide +kernel
theorem d_M_figure_60 : decode b_M_figure 60 = .ok (.bipush 48, 2) := by decide +kernel
theorem d_M_figure_62 : decode b_M_figure 62 = .ok (.bipush 57, 2) := by decide +kernel
theorem d_M_figure_64 : decode b_M_figure 64 = .ok (.invokestatic 153, 3) := by decide +kernel
theorem d_M_figure_67 : decode b_M_figure 67 = .ok (.ifCond .eq 7, 3) := by decide +kernel
theorem d_M_figure_70 : decode b_M_figure 70 = .ok (.aload_n 0, 1) := by decide +kernel
theorem d_M_figure_71 : decode b_M_figure 71 = .ok (.invokevirtual 209, 3) := by decide +kernel
theorem d_M_figure_74 : decode b_M_figure 74 = .ok (.aload_n 0, 1) := by decide +kernel
theorem d_M_figure_75 : decode b_M_figure 75 = .ok (.iconst 1, 1) := by decide +kernel
theorem d_M_figure_76 : decode b_M_figure 76 = .ok (.iload_n 1, 1) := by decide +kernel
theorem d_M_figure_77 : decode b_M_figure 77 = .ok (.invokevirtual 216, 3) := by decide +kernel
theorem d_M_figure_80 : decode b_M_figure 80 = .ok (.return_, 1) := by decide +kernel
theorem d_M_nameOf_0 : decode b_M_nameOf 0 = .ok (.iload_n 0, 1) := by decide +kernel
theorem d_M_nameOf_1 : decode b_M_nameOf 1 = .ok (.tableswitch 99 98 115 #[97, 93, 99, 99, 99, 99, 91, 99, 99, 99, 99, 99, 89, 99, 99, 99, 87, 95], 87) := by decide +kernel
theorem d_M_nameOf_88 : decode b_M_nameOf 88 = .ok (.iconst 0, 1) := by decide +kernel
theorem d_M_nameOf_89 : decode b_M_nameOf 89 = .ok (.ireturn, 1) := by decide +kernel
theorem d_M_nameOf_90 : decode b_M_nameOf 90 = .ok (.iconst 1, 1) := by decide +kernel
theorem d_M_nameOf_91 : decode b_M_nameOf 91 = .ok (.ireturn, 1) := by decide +kernel
theorem d_M_nameOf_92 : decode b_M_nameOf 92 = .ok (.iconst 2, 1) := by decide +kernel
theorem d_M_nameOf_93 : decode b_M_nameOf 93 = .ok (.ireturn, 1) := by decide +kernel
theorem d_M_nameOf_94 : decode b_M_nameOf 94 = .ok (.iconst 3, 1) := by decide +kernel
theorem d_M_nameOf_95 : decode b_M_nameOf 95 = .ok (.ireturn, 1) := by decide +kernel
theorem d_M_nameOf_96 : decode b_M_nameOf 96 = .ok (.iconst 4, 1) := by decide +kernel
theorem d_M_nameOf_97 : decode b_M_nameOf 97 = .ok (.ireturn, 1) := by decide +kernel
theorem d_M_nameOf_98 : decode b_M_nameOf 98 = .ok (.iconst 5, 1) := by decide +kernel
theorem d_M_nameOf_99 : decode b_M_nameOf 99 = .ok (.ireturn, 1) := by decide +kernel
theorem d_M_nameOf_100 : decode b_M_nameOf 100 = .ok (.iconst (-1), 1) := by decide +kernel
theorem d_M_nameOf_101 : decode b_M_nameOf 101 = .ok (.ireturn, 1) := by decide +kernel
theorem d_M_opens_0 : decode b_M_opens 0 = .ok (.aload_n 0, 1) := by decide +kernel
theorem d_M_opens_1 : decode b_M_opens 1 = .ok (.getfield 206, 3) := by decide +kernel
theorem d_M_opens_4 : decode b_M_opens 4 = .ok (.bipush 6, 2) := by decide +kernel
theorem d_M_opens_6 : decode b_M_opens 6 = .ok (.if_icmp .ne 9, 3) := by decide +kernel
theorem d_M_opens_9 : decode b_M_opens 9 = .ok (.aload_n 0, 1) := by decide +kernel
theorem d_M_opens_10 : decode b_M_opens 10 = .ok (.invokevirtual 209, 3) := by decide +kernel
theorem d_M_opens_13 : decode b_M_opens 13 = .ok (.iconst 0, 1) := by decide +kernel
theorem d_M_opens_14 : decode b_M_opens 14 = .ok (.ireturn, 1) := by decide +kernel
theorem d_M_opens_15 : decode b_M_opens 15 = .ok (.aload_n 0, 1) := by decide +kernel
theorem d_M_opens_16 : decode b_M_opens 16 = .ok (.dup, 1) := by decide +kernel
theorem d_M_opens_17 : decode b_M_opens 17 = .ok (.getfield 206, 3) := by decide +kernel
theorem d_M_opens_20 : decode b_M_opens 20 = .ok (.iconst 1, 1) := by decide +kernel
theorem d_M_opens_21 : decode b_M_opens 21 = .ok (.iadd, 1) := by decide +kernel
theorem d_M_opens_22 : decode b_M_opens 22 = .ok (.putfield 206, 3) := by decide +kernel
theorem d_M_opens_25 : decode b_M_opens 25 = .ok (.aload_n 0, 1) := by decide +kernel
theorem d_M_opens_26 : decode b_M_opens 26 = .ok (.dup, 1) := by decide +kernel
theorem d_M_opens_27 : decode b_M_opens 27 = .ok (.getfield 197, 3) := by decide +kernel
theorem d_M_opens_30 : decode b_M_opens 30 = .ok (.iconst 1, 1) := by decide +kernel
theorem d_M_opens_31 : decode b_M_opens 31 = .ok (.iadd, 1) := by decide +kernel
theorem d_M_opens_32 : decode b_M_opens 32 = .ok (.putfield 197, 3) := by decide +kernel
theorem d_M_opens_35 : decode b_M_opens 35 = .ok (.iconst 1, 1) := by decide +kernel
theorem d_M_opens_36 : decode b_M_opens 36 = .ok (.ireturn, 1) := by decide +kernel
theorem d_M_product_0 : decode b_M_product 0 = .ok (.aload_n 0, 1) := by decide +kernel
theorem d_M_product_1 : decode b_M_product 1 = .ok (.invokevirtual 228, 3) := by decide +kernel
theorem d_M_product_4 : decode b_M_product 4 = .ok (.aload_n 0, 1) := by decide +kernel
theorem d_M_product_5 : decode b_M_product 5 = .ok (.getfield 200, 3) := by decide +kernel
theorem d_M_product_8 : decode b_M_product 8 = .ok (.ifCond .ge 58, 3) := by decide +kernel
theorem d_M_product_11 : decode b_M_product 11 = .ok (.aload_n 0, 1) := by decide +kernel
theorem d_M_product_12 : decode b_M_product 12 = .ok (.invokevirtual 212, 3) := by decide +kernel
theorem d_M_product_15 : decode b_M_product 15 = .ok (.bipush 42, 2) := by decide +kernel
theorem d_M_product_17 : decode b_M_product 17 = .ok (.if_icmp .eq 21, 3) := by decide +kernel
theorem d_M_product_20 : decode b_M_product 20 = .ok (.aload_n 0, 1) := by decide +kernel
theorem d_M_product_21 : decode b_M_product 21 = .ok (.invokevirtual 212, 3) := by decide +kernel
theorem d_M_product_24 : decode b_M_product 24 = .ok (.bipush 47, 2) := by decide +kernel
theorem d_M_product_26 : decode b_M_product 26 = .ok (.if_icmp .eq 12, 3) := by decide +kernel
theorem d_M_product_29 : decode b_M_product 29 = .ok (.aload_n 0, 1) := by decide +kernel
theorem d_M_product_30 : decode b_M_product 30 = .ok (.invokevirtual 212, 3) := by decide +kernel
theorem d_M_product_33 : decode b_M_product 33 = .ok (.bipush 37, 2) := by decide +kernel
theorem d_M_product_35 : decode b_M_product 35 = .ok (.if_icmp .ne 31, 3) := by decide +kernel
theorem d_M_product_38 : decode b_M_product 38 = .ok (.aload_n 0, 1) := by decide +kernel
theorem d_M_product_39 : decode b_M_product 39 = .ok (.invokevirtual 212, 3) := by decide +kernel
theorem d_M_product_42 : decode b_M_product 42 = .ok (.istore_n 1, 1) := by decide +kernel
theorem d_M_product_43 : decode b_M_product 43 = .ok (.aload_n 0, 1) := by decide +kernel
theorem d_M_product_44 : decode b_M_product 44 = .ok (.dup, 1) := by decide +kernel
theorem d_M_product_45 : decode b_M_product 45 = .ok (.getfield 197, 3) := by decide +kernel
theorem d_M_product_48 : decode b_M_product 48 = .ok (.iconst 1, 1) := by decide +kernel
theorem d_M_product_49 : decode b_M_product 49 = .ok (.iadd, 1) := by decide +kernel
theorem d_M_product_50 : decode b_M_product 50 = .ok (.putfield 197, 3) := by decide +kernel
theorem d_M_product_53 : decode b_M_product 53 = .ok (.aload_n 0, 1) := by decide +kernel
theorem d_M_product_54 : decode b_M_product 54 = .ok (.invokevirtual 228, 3) := by decide +kernel
theorem d_M_product_57 : decode b_M_product 57 = .ok (.aload_n 0, 1) := by decide +kernel
theorem d_M_product_58 : decode b_M_product 58 = .ok (.iload_n 1, 1) := by decide +kernel
theorem d_M_product_59 : decode b_M_product 59 = .ok (.iconst 0, 1) := by decide +kernel
theorem d_M_product_60 : decode b_M_product 60 = .ok (.invokevirtual 216, 3) := by decide +kernel
theorem d_M_product_63 : decode b_M_product 63 = .ok (.goto (-59), 3) := by decide +kernel
theorem d_M_product_66 : decode b_M_product 66 = .ok (.return_, 1) := by decide +kernel
theorem d_M_sum_0 : decode b_M_sum 0 = .ok (.aload_n 0, 1) := by decide +kernel
theorem d_M_sum_1 : decode b_M_sum 1 = .ok (.invokevirtual 237, 3) := by decide +kernel
theorem d_M_sum_4 : decode b_M_sum 4 = .ok (.aload_n 0, 1) := by decide +kernel
theorem d_M_sum_5 : decode b_M_sum 5 = .ok (.getfield 200, 3) := by decide +kernel
theorem d_M_sum_8 : decode b_M_sum 8 = .ok (.ifCond .ge 49, 3) := by decide +kernel
theorem d_M_sum_11 : decode b_M_sum 11 = .ok (.aload_n 0, 1) := by decide +kernel
theorem d_M_sum_12 : decode b_M_sum 12 = .ok (.invokevirtual 212, 3) := by decide +kernel
theorem d_M_sum_15 : decode b_M_sum 15 = .ok (.bipush 43, 2) := by decide +kernel
theorem d_M_sum_17 : decode b_M_sum 17 = .ok (.if_icmp .eq 12, 3) := by decide +kernel
theorem d_M_sum_20 : decode b_M_sum 20 = .ok (.aload_n 0, 1) := by decide +kernel
theorem d_M_sum_21 : decode b_M_sum 21 = .ok (.invokevirtual 212, 3) := by decide +kernel
theorem d_M_sum_24 : decode b_M_sum 24 = .ok (.bipush 45, 2) := by decide +kernel
theorem d_M_sum_26 : decode b_M_sum 26 = .ok (.if_icmp .ne 31, 3) := by decide +kernel
theorem d_M_sum_29 : decode b_M_sum 29 = .ok (.aload_n 0, 1) := by decide +kernel
theorem d_M_sum_30 : decode b_M_sum 30 = .ok (.invokevirtual 212, 3) := by decide +kernel
theorem d_M_sum_33 : decode b_M_sum 33 = .ok (.istore_n 1, 1) := by decide +kernel
theorem d_M_sum_34 : decode b_M_sum 34 = .ok (.aload_n 0, 1) := by decide +kernel
theorem d_M_sum_35 : decode b_M_sum 35 = .ok (.dup, 1) := by decide +kernel
theorem d_M_sum_36 : decode b_M_sum 36 = .ok (.getfield 197, 3) := by decide +kernel
theorem d_M_sum_39 : decode b_M_sum 39 = .ok (.iconst 1, 1) := by decide +kernel
theorem d_M_sum_40 : decode b_M_sum 40 = .ok (.iadd, 1) := by decide +kernel
theorem d_M_sum_41 : decode b_M_sum 41 = .ok (.putfield 197, 3) := by decide +kernel
theorem d_M_sum_44 : decode b_M_sum 44 = .ok (.aload_n 0, 1) := by decide +kernel
theorem d_M_sum_45 : decode b_M_sum 45 = .ok (.invokevirtual 237, 3) := by decide +kernel
theorem d_M_sum_48 : decode b_M_sum 48 = .ok (.aload_n 0, 1) := by decide +kernel
theorem d_M_sum_49 : decode b_M_sum 49 = .ok (.iload_n 1, 1) := by decide +kernel
theorem d_M_sum_50 : decode b_M_sum 50 = .ok (.iconst 0, 1) := by decide +kernel
theorem d_M_sum_51 : decode b_M_sum 51 = .ok (.invokevirtual 216, 3) := by decide +kernel
theorem d_M_sum_54 : decode b_M_sum 54 = .ok (.goto (-50), 3) := by decide +kernel
theorem d_M_sum_57 : decode b_M_sum 57 = .ok (.return_, 1) := by decide +kernel
theorem d_M_compared_0 : decode b_M_compared 0 = .ok (.aload_n 0, 1) := by decide +kernel
theorem d_M_compared_1 : decode b_M_compared 1 = .ok (.invokevirtual 240, 3) := by decide +kernel
theorem d_M_compared_4 : decode b_M_compared 4 = .ok (.aload_n 0, 1) := by decide +kernel
theorem d_M_compared_5 : decode b_M_compared 5 = .ok (.invokevirtual 212, 3) := by decide +kernel
theorem d_M_compared_8 : decode b_M_compared 8 = .ok (.istore_n 1, 1) := by decide +kernel
theorem d_M_compared_9 : decode b_M_compared 9 = .ok (.aload_n 0, 1) := by decide +kernel
theorem d_M_compared_10 : decode b_M_compared 10 = .ok (.getfield 200, 3) := by decide +kernel
theorem d_M_compared_13 : decode b_M_compared 13 = .ok (.ifCond .ge 21, 3) := by decide +kernel
theorem d_M_compared_16 : decode b_M_compared 16 = .ok (.iload_n 1, 1) := by decide +kernel
theorem d_M_compared_17 : decode b_M_compared 17 = .ok (.bipush 60, 2) := by decide +kernel
theorem d_M_compared_19 : decode b_M_compared 19 = .ok (.if_icmp .eq 16, 3) := by decide +kernel
theorem d_M_compared_22 : decode b_M_compared 22 = .ok (.iload_n 1, 1) := by decide +kernel
theorem d_M_compared_23 : decode b_M_compared 23 = .ok (.bipush 61, 2) := by decide +kernel
theorem d_M_compared_25 : decode b_M_compared 25 = .ok (.if_icmp .eq 10, 3) := by decide +kernel
theorem d_M_compared_28 : decode b_M_compared 28 = .ok (.iload_n 1, 1) := by decide +kernel
theorem d_M_compared_29 : decode b_M_compared 29 = .ok (.bipush 62, 2) := by decide +kernel
theorem d_M_compared_31 : decode b_M_compared 31 = .ok (.if_icmp .eq 4, 3) := by decide +kernel
theorem d_M_compared_34 : decode b_M_compared 34 = .ok (.return_, 1) := by decide +kernel
theorem d_M_compared_35 : decode b_M_compared 35 = .ok (.aload_n 0, 1) := by decide +kernel
theorem d_M_compared_36 : decode b_M_compared 36 = .ok (.dup, 1) := by decide +kernel
theorem d_M_compared_37 : decode b_M_compared 37 = .ok (.getfield 197, 3) := by decide +kernel
theorem d_M_compared_40 : decode b_M_compared 40 = .ok (.iconst 1, 1) := by decide +kernel
theorem d_M_compared_41 : decode b_M_compared 41 = .ok (.iadd, 1) := by decide +kernel
theorem d_M_compared_42 : decode b_M_compared 42 = .ok (.putfield 197, 3) := by decide +kernel
theorem d_M_compared_45 : decode b_M_compared 45 = .ok (.aload_n 0, 1) := by decide +kernel
theorem d_M_compared_46 : decode b_M_compared 46 = .ok (.invokevirtual 240, 3) := by decide +kernel
theorem d_M_compared_49 : decode b_M_compared 49 = .ok (.aload_n 0, 1) := by decide +kernel
theorem d_M_compared_50 : decode b_M_compared 50 = .ok (.iload_n 1, 1) := by decide +kernel
theorem d_M_compared_51 : decode b_M_compared 51 = .ok (.iconst 0, 1) := by decide +kernel
theorem d_M_compared_52 : decode b_M_compared 52 = .ok (.invokevirtual 216, 3) := by decide +kernel
theorem d_M_compared_55 : decode b_M_compared 55 = .ok (.return_, 1) := by decide +kernel
theorem d_M_both_0 : decode b_M_both 0 = .ok (.aload_n 0, 1) := by decide +kernel
theorem d_M_both_1 : decode b_M_both 1 = .ok (.invokevirtual 243, 3) := by decide +kernel
theorem d_M_both_4 : decode b_M_both 4 = .ok (.aload_n 0, 1) := by decide +kernel
theorem d_M_both_5 : decode b_M_both 5 = .ok (.getfield 200, 3) := by decide +kernel
theorem d_M_both_8 : decode b_M_both 8 = .ok (.ifCond .ge 36, 3) := by decide +kernel
theorem d_M_both_11 : decode b_M_both 11 = .ok (.aload_n 0, 1) := by decide +kernel
theorem d_M_both_12 : decode b_M_both 12 = .ok (.invokevirtual 212, 3) := by decide +kernel
theorem d_M_both_15 : decode b_M_both 15 = .ok (.bipush 38, 2) := by decide +kernel
theorem d_M_both_17 : decode b_M_both 17 = .ok (.if_icmp .ne 27, 3) := by decide +kernel
theorem d_M_both_20 : decode b_M_both 20 = .ok (.aload_n 0, 1) := by decide +kernel
theorem d_M_both_21 : decode b_M_both 21 = .ok (.dup, 1) := by decide +kernel
theorem d_M_both_22 : decode b_M_both 22 = .ok (.getfield 197, 3) := by decide +kernel
theorem d_M_both_25 : decode b_M_both 25 = .ok (.iconst 1, 1) := by decide +kernel
theorem d_M_both_26 : decode b_M_both 26 = .ok (.iadd, 1) := by decide +kernel
theorem d_M_both_27 : decode b_M_both 27 = .ok (.putfield 197, 3) := by decide +kernel
theorem d_M_both_30 : decode b_M_both 30 = .ok (.aload_n 0, 1) := by decide +kernel
theorem d_M_both_31 : decode b_M_both 31 = .ok (.invokevirtual 243, 3) := by decide +kernel
theorem d_M_both_34 : decode b_M_both 34 = .ok (.aload_n 0, 1) := by decide +kernel
theorem d_M_both_35 : decode b_M_both 35 = .ok (.bipush 38, 2) := by decide +kernel
theorem d_M_both_37 : decode b_M_both 37 = .ok (.iconst 0, 1) := by decide +kernel
theorem d_M_both_38 : decode b_M_both 38 = .ok (.invokevirtual 216, 3) := by decide +kernel
theorem d_M_both_41 : decode b_M_both 41 = .ok (.goto (-37), 3) := by decide +kernel
theorem d_M_both_44 : decode b_M_both 44 = .ok (.return_, 1) := by decide +kernel
theorem d_M_either_0 : decode b_M_either 0 = .ok (.aload_n 0, 1) := by decide +kernel
theorem d_M_either_1 : decode b_M_either 1 = .ok (.invokevirtual 246, 3) := by decide +kernel
theorem d_M_either_4 : decode b_M_either 4 = .ok (.aload_n 0, 1) := by decide +kernel
theorem d_M_either_5 : decode b_M_either 5 = .ok (.getfield 200, 3) := by decide +kernel
theorem d_M_either_8 : decode b_M_either 8 = .ok (.ifCond .ge 36, 3) := by decide +kernel
theorem d_M_either_11 : decode b_M_either 11 = .ok (.aload_n 0, 1) := by decide +kernel
theorem d_M_either_12 : decode b_M_either 12 = .ok (.invokevirtual 212, 3) := by decide +kernel
theorem d_M_either_15 : decode b_M_either 15 = .ok (.bipush 124, 2) := by decide +kernel
theorem d_M_either_17 : decode b_M_either 17 = .ok (.if_icmp .ne 27, 3) := by decide +kernel
theorem d_M_either_20 : decode b_M_either 20 = .ok (.aload_n 0, 1) := by decide +kernel
theorem d_M_either_21 : decode b_M_either 21 = .ok (.dup, 1) := by decide +kernel
theorem d_M_either_22 : decode b_M_either 22 = .ok (.getfield 197, 3) := by decide +kernel
theorem d_M_either_25 : decode b_M_either 25 = .ok (.iconst 1, 1) := by decide +kernel
theorem d_M_either_26 : decode b_M_either 26 = .ok (.iadd, 1) := by decide +kernel
theorem d_M_either_27 : decode b_M_either 27 = .ok (.putfield 197, 3) := by decide +kernel
theorem d_M_either_30 : decode b_M_either 30 = .ok (.aload_n 0, 1) := by decide +kernel
theorem d_M_either_31 : decode b_M_either 31 = .ok (.invokevirtual 246, 3) := by decide +kernel
theorem d_M_either_34 : decode b_M_either 34 = .ok (.aload_n 0, 1) := by decide +kernel
theorem d_M_either_35 : decode b_M_either 35 = .ok (.bipush 124, 2) := by decide +kernel
theorem d_M_either_37 : decode b_M_either 37 = .ok (.iconst 0, 1) := by decide +kernel
theorem d_M_either_38 : decode b_M_either 38 = .ok (.invokevirtual 216, 3) := by decide +kernel
theorem d_M_either_41 : decode b_M_either 41 = .ok (.goto (-37), 3) := by decide +kernel
theorem d_M_either_44 : decode b_M_either 44 = .ok (.return_, 1) := by decide +kernel
theorem d_M_operand_0 : decode b_M_operand 0 = .ok (.aload_n 0, 1) := by decide +kernel
theorem d_M_operand_1 : decode b_M_operand 1 = .ok (.invokevirtual 212, 3) := by decide +kernel
theorem d_M_operand_4 : decode b_M_operand 4 = .ok (.istore_n 1, 1) := by decide +kernel
theorem d_M_operand_5 : decode b_M_operand 5 = .ok (.iload_n 1, 1) := by decide +kernel
theorem d_M_operand_6 : decode b_M_operand 6 = .ok (.invokestatic 220, 3) := by decide +kernel
theorem d_M_operand_9 : decode b_M_operand 9 = .ok (.ifCond .lt 25, 3) := by decide +kernel
theorem d_M_operand_12 : decode b_M_operand 12 = .ok (.aload_n 0, 1) := by decide +kernel
theorem d_M_operand_13 : decode b_M_operand 13 = .ok (.iconst 2, 1) := by decide +kernel
theorem d_M_operand_14 : decode b_M_operand 14 = .ok (.iload_n 1, 1) := by decide +kernel
theorem d_M_operand_15 : decode b_M_operand 15 = .ok (.invokestatic 220, 3) := by decide +kernel
theorem d_M_operand_18 : decode b_M_operand 18 = .ok (.invokevirtual 216, 3) := by decide +kernel
theorem d_M_operand_21 : decode b_M_operand 21 = .ok (.aload_n 0, 1) := by decide +kernel
theorem d_M_operand_22 : decode b_M_operand 22 = .ok (.dup, 1) := by decide +kernel
theorem d_M_operand_23 : decode b_M_operand 23 = .ok (.getfield 197, 3) := by decide +kernel
theorem d_M_operand_26 : decode b_M_operand 26 = .ok (.iconst 1, 1) := by decide +kernel
theorem d_M_operand_27 : decode b_M_operand 27 = .ok (.iadd, 1) := by decide +kernel
theorem d_M_operand_28 : decode b_M_operand 28 = .ok (.putfield 197, 3) := by decide +kernel
theorem d_M_operand_31 : decode b_M_operand 31 = .ok (.goto 123, 3) := by decide +kernel
theorem d_M_operand_34 : decode b_M_operand 34 = .ok (.iload_n 1, 1) := by decide +kernel
theorem d_M_operand_35 : decode b_M_operand 35 = .ok (.bipush 33, 2) := by decide +kernel
theorem d_M_operand_37 : decode b_M_operand 37 = .ok (.if_icmp .eq 9, 3) := by decide +kernel
theorem d_M_operand_40 : decode b_M_operand 40 = .ok (.iload_n 1, 1) := by decide +kernel
theorem d_M_operand_41 : decode b_M_operand 41 = .ok (.bipush 45, 2) := by decide +kernel
theorem d_M_operand_43 : decode b_M_operand 43 = .ok (.if_icmp .ne 44, 3) := by decide +kernel
theorem d_M_operand_46 : decode b_M_operand 46 = .ok (.aload_n 0, 1) := by decide +kernel
theorem d_M_operand_47 : decode b_M_operand 47 = .ok (.invokevirtual 224, 3) := by decide +kernel
theorem d_M_operand_50 : decode b_M_operand 50 = .ok (.ifCond .ne 4, 3) := by decide +kernel
theorem d_M_operand_53 : decode b_M_operand 53 = .ok (.return_, 1) := by decide +kernel
theorem d_M_operand_54 : decode b_M_operand 54 = .ok (.aload_n 0, 1) := by decide +kernel
theorem d_M_operand_55 : decode b_M_operand 55 = .ok (.invokevirtual 228, 3) := by decide +kernel
theorem d_M_operand_58 : decode b_M_operand 58 = .ok (.aload_n 0, 1) := by decide +kernel
theorem d_M_operand_59 : decode b_M_operand 59 = .ok (.dup, 1) := by decide +kernel
theorem d_M_operand_60 : decode b_M_operand 60 = .ok (.getfield 206, 3) := by decide +kernel
theorem d_M_operand_63 : decode b_M_operand 63 = .ok (.iconst 1, 1) := by decide +kernel
theorem d_M_operand_64 : decode b_M_operand 64 = .ok (.isub, 1) := by decide +kernel
theorem d_M_operand_65 : decode b_M_operand 65 = .ok (.putfield 206, 3) := by decide +kernel
theorem d_M_operand_68 : decode b_M_operand 68 = .ok (.aload_n 0, 1) := by decide +kernel
theorem d_M_operand_69 : decode b_M_operand 69 = .ok (.iload_n 1, 1) := by decide +kernel
theorem d_M_operand_70 : decode b_M_operand 70 = .ok (.bipush 33, 2) := by decide +kernel
theorem d_M_operand_72 : decode b_M_operand 72 = .ok (.if_icmp .ne 7, 3) := by decide +kernel
theorem d_M_operand_75 : decode b_M_operand 75 = .ok (.iconst 3, 1) := by decide +kernel
theorem d_M_operand_76 : decode b_M_operand 76 = .ok (.goto 4, 3) := by decide +kernel
theorem d_M_operand_79 : decode b_M_operand 79 = .ok (.iconst 4, 1) := by decide +kernel
theorem d_M_operand_80 : decode b_M_operand 80 = .ok (.iconst 0, 1) := by decide +kernel
theorem d_M_operand_81 : decode b_M_operand 81 = .ok (.invokevirtual 216, 3) := by decide +kernel
theorem d_M_operand_84 : decode b_M_operand 84 = .ok (.goto 70, 3) := by decide +kernel
theorem d_M_operand_87 : decode b_M_operand 87 = .ok (.iload_n 1, 1) := by decide +kernel
theorem d_M_operand_88 : decode b_M_operand 88 = .ok (.bipush 40, 2) := by decide +kernel
theorem d_M_operand_90 : decode b_M_operand 90 = .ok (.if_icmp .ne 60, 3) := by decide +kernel
theorem d_M_operand_93 : decode b_M_operand 93 = .ok (.aload_n 0, 1) := by decide +kernel
theorem d_M_operand_94 : decode b_M_operand 94 = .ok (.invokevirtual 224, 3) := by decide +kernel
theorem d_M_operand_97 : decode b_M_operand 97 = .ok (.ifCond .ne 4, 3) := by decide +kernel
theorem d_M_operand_100 : decode b_M_operand 100 = .ok (.return_, 1) := by decide +kernel
theorem d_M_operand_101 : decode b_M_operand 101 = .ok (.aload_n 0, 1) := by decide +kernel
theorem d_M_operand_102 : decode b_M_operand 102 = .ok (.invokevirtual 231, 3) := by decide +kernel
theorem d_M_operand_105 : decode b_M_operand 105 = .ok (.aload_n 0, 1) := by decide +kernel
theorem d_M_operand_106 : decode b_M_operand 106 = .ok (.getfield 200, 3) := by decide +kernel
theorem d_M_operand_109 : decode b_M_operand 109 = .ok (.ifCond .lt 4, 3) := by decide +kernel
theorem d_M_operand_112 : decode b_M_operand 112 = .ok (.return_, 1) := by decide +kernel
theorem d_M_operand_113 : decode b_M_operand 113 = .ok (.aload_n 0, 1) := by decide +kernel
theorem d_M_operand_114 : decode b_M_operand 114 = .ok (.invokevirtual 212, 3) := by decide +kernel
theorem d_M_operand_117 : decode b_M_operand 117 = .ok (.bipush 41, 2) := by decide +kernel
theorem d_M_operand_119 : decode b_M_operand 119 = .ok (.if_icmp .eq 8, 3) := by decide +kernel
theorem d_M_operand_122 : decode b_M_operand 122 = .ok (.aload_n 0, 1) := by decide +kernel
theorem d_M_operand_123 : decode b_M_operand 123 = .ok (.invokevirtual 209, 3) := by decide +kernel
theorem d_M_operand_126 : decode b_M_operand 126 = .ok (.return_, 1) := by decide +kernel
theorem d_M_operand_127 : decode b_M_operand 127 = .ok (.aload_n 0, 1) := by decide +kernel
theorem d_M_operand_128 : decode b_M_operand 128 = .ok (.dup, 1) := by decide +kernel
theorem d_M_operand_129 : decode b_M_operand 129 = .ok (.getfield 197, 3) := by decide +kernel
theorem d_M_operand_132 : decode b_M_operand 132 = .ok (.iconst 1, 1) := by decide +kernel
theorem d_M_operand_133 : decode b_M_operand 133 = .ok (.iadd, 1) := by decide +kernel
theorem d_M_operand_134 : decode b_M_operand 134 = .ok (.putfield 197, 3) := by decide +kernel
theorem d_M_operand_137 : decode b_M_operand 137 = .ok (.aload_n 0, 1) := by decide +kernel
theorem d_M_operand_138 : decode b_M_operand 138 = .ok (.dup, 1) := by decide +kernel
theorem d_M_operand_139 : decode b_M_operand 139 = .ok (.getfield 206, 3) := by decide +kernel
theorem d_M_operand_142 : decode b_M_operand 142 = .ok (.iconst 1, 1) := by decide +kernel
theorem d_M_operand_143 : decode b_M_operand 143 = .ok (.isub, 1) := by decide +kernel
theorem d_M_operand_144 : decode b_M_operand 144 = .ok (.putfield 206, 3) := by decide +kernel
theorem d_M_operand_147 : decode b_M_operand 147 = .ok (.goto 7, 3) := by decide +kernel
theorem d_M_operand_150 : decode b_M_operand 150 = .ok (.aload_n 0, 1) := by decide +kernel
theorem d_M_operand_151 : decode b_M_operand 151 = .ok (.invokevirtual 234, 3) := by decide +kernel
theorem d_M_operand_154 : decode b_M_operand 154 = .ok (.return_, 1) := by decide +kernel
theorem d_M_lays_0 : decode b_M_lays 0 = .ok (.iload_n 1, 1) := by decide +kernel
theorem d_M_lays_1 : decode b_M_lays 1 = .ok (.tableswitch 163 0 10 #[59, 69, 79, 89, 99, 109, 119, 129, 139, 147, 155], 59) := by decide +kernel
theorem d_M_lays_60 : decode b_M_lays 60 = .ok (.aload_n 0, 1) := by decide +kernel
theorem d_M_lays_61 : decode b_M_lays 61 = .ok (.getfield 7, 3) := by decide +kernel
theorem d_M_lays_64 : decode b_M_lays 64 = .ok (.iload_n 2, 1) := by decide +kernel
theorem d_M_lays_65 : decode b_M_lays 65 = .ok (.iload_n 3, 1) := by decide +kernel
theorem d_M_lays_66 : decode b_M_lays 66 = .ok (.iastore, 1) := by decide +kernel
theorem d_M_lays_67 : decode b_M_lays 67 = .ok (.goto 102, 3) := by decide +kernel
theorem d_M_lays_70 : decode b_M_lays 70 = .ok (.aload_n 0, 1) := by decide +kernel
theorem d_M_lays_71 : decode b_M_lays 71 = .ok (.getfield 13, 3) := by decide +kernel
theorem d_M_lays_74 : decode b_M_lays 74 = .ok (.iload_n 2, 1) := by decide +kernel
theorem d_M_lays_75 : decode b_M_lays 75 = .ok (.iload_n 3, 1) := by decide +kernel
theorem d_M_lays_76 : decode b_M_lays 76 = .ok (.iastore, 1) := by decide +kernel
theorem d_M_lays_77 : decode b_M_lays 77 = .ok (.goto 92, 3) := by decide +kernel
theorem d_M_lays_80 : decode b_M_lays 80 = .ok (.aload_n 0, 1) := by decide +kernel
theorem d_M_lays_81 : decode b_M_lays 81 = .ok (.getfield 16, 3) := by decide +kernel
theorem d_M_lays_84 : decode b_M_lays 84 = .ok (.iload_n 2, 1) := by decide +kernel
theorem d_M_lays_85 : decode b_M_lays 85 = .ok (.iload_n 3, 1) := by decide +kernel
theorem d_M_lays_86 : decode b_M_lays 86 = .ok (.iastore, 1) := by decide +kernel
theorem d_M_lays_87 : decode b_M_lays 87 = .ok (.goto 82, 3) := by decide +kernel
theorem d_M_lays_90 : decode b_M_lays 90 = .ok (.aload_n 0, 1) := by decide +kernel
theorem d_M_lays_91 : decode b_M_lays 91 = .ok (.getfield 19, 3) := by decide +kernel
theorem d_M_lays_94 : decode b_M_lays 94 = .ok (.iload_n 2, 1) := by decide +kernel
theorem d_M_lays_95 : decode b_M_lays 95 = .ok (.iload_n 3, 1) := by decide +kernel
theorem d_M_lays_96 : decode b_M_lays 96 = .ok (.iastore, 1) := by decide +kernel
theorem d_M_lays_97 : decode b_M_lays 97 = .ok (.goto 72, 3) := by decide +kernel
theorem d_M_lays_100 : decode b_M_lays 100 = .ok (.aload_n 0, 1) := by decide +kernel
theorem d_M_lays_101 : decode b_M_lays 101 = .ok (.getfield 22, 3) := by decide +kernel
theorem d_M_lays_104 : decode b_M_lays 104 = .ok (.iload_n 2, 1) := by decide +kernel
theorem d_M_lays_105 : decode b_M_lays 105 = .ok (.iload_n 3, 1) := by decide +kernel
theorem d_M_lays_106 : decode b_M_lays 106 = .ok (.iastore, 1) := by decide +kernel
theorem d_M_lays_107 : decode b_M_lays 107 = .ok (.goto 62, 3) := by decide +kernel
theorem d_M_lays_110 : decode b_M_lays 110 = .ok (.aload_n 0, 1) := by decide +kernel
theorem d_M_lays_111 : decode b_M_lays 111 = .ok (.getfield 25, 3) := by decide +kernel
theorem d_M_lays_114 : decode b_M_lays 114 = .ok (.iload_n 2, 1) := by decide +kernel
theorem d_M_lays_115 : decode b_M_lays 115 = .ok (.iload_n 3, 1) := by decide +kernel
theorem d_M_lays_116 : decode b_M_lays 116 = .ok (.iastore, 1) := by decide +kernel
theorem d_M_lays_117 : decode b_M_lays 117 = .ok (.goto 52, 3) := by decide +kernel
theorem d_M_lays_120 : decode b_M_lays 120 = .ok (.aload_n 0, 1) := by decide +kernel
theorem d_M_lays_121 : decode b_M_lays 121 = .ok (.getfield 28, 3) := by decide +kernel
theorem d_M_lays_124 : decode b_M_lays 124 = .ok (.iload_n 2, 1) := by decide +kernel
theorem d_M_lays_125 : decode b_M_lays 125 = .ok (.iload_n 3, 1) := by decide +kernel
theorem d_M_lays_126 : decode b_M_lays 126 = .ok (.iastore, 1) := by decide +kernel
theorem d_M_lays_127 : decode b_M_lays 127 = .ok (.goto 42, 3) := by decide +kernel
theorem d_M_lays_130 : decode b_M_lays 130 = .ok (.aload_n 0, 1) := by decide +kernel
theorem d_M_lays_131 : decode b_M_lays 131 = .ok (.getfield 31, 3) := by decide +kernel
theorem d_M_lays_134 : decode b_M_lays 134 = .ok (.iload_n 2, 1) := by decide +kernel
theorem d_M_lays_135 : decode b_M_lays 135 = .ok (.iload_n 3, 1) := by decide +kernel
theorem d_M_lays_136 : decode b_M_lays 136 = .ok (.iastore, 1) := by decide +kernel
theorem d_M_lays_137 : decode b_M_lays 137 = .ok (.goto 32, 3) := by decide +kernel
theorem d_M_lays_140 : decode b_M_lays 140 = .ok (.aload_n 0, 1) := by decide +kernel
theorem d_M_lays_141 : decode b_M_lays 141 = .ok (.iload_n 3, 1) := by decide +kernel
theorem d_M_lays_142 : decode b_M_lays 142 = .ok (.putfield 34, 3) := by decide +kernel
theorem d_M_lays_145 : decode b_M_lays 145 = .ok (.goto 24, 3) := by decide +kernel
theorem d_M_lays_148 : decode b_M_lays 148 = .ok (.aload_n 0, 1) := by decide +kernel
theorem d_M_lays_149 : decode b_M_lays 149 = .ok (.iload_n 3, 1) := by decide +kernel
theorem d_M_lays_150 : decode b_M_lays 150 = .ok (.putfield 38, 3) := by decide +kernel
theorem d_M_lays_153 : decode b_M_lays 153 = .ok (.goto 16, 3) := by decide +kernel
theorem d_M_lays_156 : decode b_M_lays 156 = .ok (.aload_n 0, 1) := by decide +kernel
theorem d_M_lays_157 : decode b_M_lays 157 = .ok (.iload_n 3, 1) := by decide +kernel
theorem d_M_lays_158 : decode b_M_lays 158 = .ok (.putfield 41, 3) := by decide +kernel
theorem d_M_lays_161 : decode b_M_lays 161 = .ok (.goto 8, 3) := by decide +kernel
theorem d_M_lays_164 : decode b_M_lays 164 = .ok (.aload_n 0, 1) := by decide +kernel
theorem d_M_lays_165 : decode b_M_lays 165 = .ok (.iload_n 3, 1) := by decide +kernel
theorem d_M_lays_166 : decode b_M_lays 166 = .ok (.putfield 44, 3) := by decide +kernel
theorem d_M_lays_169 : decode b_M_lays 169 = .ok (.return_, 1) := by decide +kernel
theorem d_M_valueAt_0 : decode b_M_valueAt 0 = .ok (.iload_n 1, 1) := by decide +kernel
theorem d_M_valueAt_1 : decode b_M_valueAt 1 = .ok (.tableswitch 130 0 10 #[59, 66, 73, 80, 87, 94, 101, 108, 115, 120, 125], 59) := by decide +kernel
theorem d_M_valueAt_60 : decode b_M_valueAt 60 = .ok (.aload_n 0, 1) := by decide +kernel
theorem d_M_valueAt_61 : decode b_M_valueAt 61 = .ok (.getfield 7, 3) := by decide +kernel
theorem d_M_valueAt_64 : decode b_M_valueAt 64 = .ok (.iload_n 2, 1) := by decide +kernel
theorem d_M_valueAt_65 : decode b_M_valueAt 65 = .ok (.iaload, 1) := by decide +kernel
theorem d_M_valueAt_66 : decode b_M_valueAt 66 = .ok (.ireturn, 1) := by decide +kernel
theorem d_M_valueAt_67 : decode b_M_valueAt 67 = .ok (.aload_n 0, 1) := by decide +kernel
theorem d_M_valueAt_68 : decode b_M_valueAt 68 = .ok (.getfield 13, 3) := by decide +kernel
theorem d_M_valueAt_71 : decode b_M_valueAt 71 = .ok (.iload_n 2, 1) := by decide +kernel
theorem d_M_valueAt_72 : decode b_M_valueAt 72 = .ok (.iaload, 1) := by decide +kernel
theorem d_M_valueAt_73 : decode b_M_valueAt 73 = .ok (.ireturn, 1) := by decide +kernel
theorem d_M_valueAt_74 : decode b_M_valueAt 74 = .ok (.aload_n 0, 1) := by decide +kernel
theorem d_M_valueAt_75 : decode b_M_valueAt 75 = .ok (.getfield 16, 3) := by decide +kernel
theorem d_M_valueAt_78 : decode b_M_valueAt 78 = .ok (.iload_n 2, 1) := by decide +kernel
theorem d_M_valueAt_79 : decode b_M_valueAt 79 = .ok (.iaload, 1) := by decide +kernel
theorem d_M_valueAt_80 : decode b_M_valueAt 80 = .ok (.ireturn, 1) := by decide +kernel
theorem d_M_valueAt_81 : decode b_M_valueAt 81 = .ok (.aload_n 0, 1) := by decide +kernel
theorem d_M_valueAt_82 : decode b_M_valueAt 82 = .ok (.getfield 19, 3) := by decide +kernel
theorem d_M_valueAt_85 : decode b_M_valueAt 85 = .ok (.iload_n 2, 1) := by decide +kernel
theorem d_M_valueAt_86 : decode b_M_valueAt 86 = .ok (.iaload, 1) := by decide +kernel
theorem d_M_valueAt_87 : decode b_M_valueAt 87 = .ok (.ireturn, 1) := by decide +kernel
theorem d_M_valueAt_88 : decode b_M_valueAt 88 = .ok (.aload_n 0, 1) := by decide +kernel
theorem d_M_valueAt_89 : decode b_M_valueAt 89 = .ok (.getfield 22, 3) := by decide +kernel
theorem d_M_valueAt_92 : decode b_M_valueAt 92 = .ok (.iload_n 2, 1) := by decide +kernel
theorem d_M_valueAt_93 : decode b_M_valueAt 93 = .ok (.iaload, 1) := by decide +kernel
theorem d_M_valueAt_94 : decode b_M_valueAt 94 = .ok (.ireturn, 1) := by decide +kernel
theorem d_M_valueAt_95 : decode b_M_valueAt 95 = .ok (.aload_n 0, 1) := by decide +kernel
theorem d_M_valueAt_96 : decode b_M_valueAt 96 = .ok (.getfield 25, 3) := by decide +kernel
theorem d_M_valueAt_99 : decode b_M_valueAt 99 = .ok (.iload_n 2, 1) := by decide +kernel
theorem d_M_valueAt_100 : decode b_M_valueAt 100 = .ok (.iaload, 1) := by decide +kernel
theorem d_M_valueAt_101 : decode b_M_valueAt 101 = .ok (.ireturn, 1) := by decide +kernel
theorem d_M_valueAt_102 : decode b_M_valueAt 102 = .ok (.aload_n 0, 1) := by decide +kernel
theorem d_M_valueAt_103 : decode b_M_valueAt 103 = .ok (.getfield 28, 3) := by decide +kernel
theorem d_M_valueAt_106 : decode b_M_valueAt 106 = .ok (.iload_n 2, 1) := by decide +kernel
theorem d_M_valueAt_107 : decode b_M_valueAt 107 = .ok (.iaload, 1) := by decide +kernel
theorem d_M_valueAt_108 : decode b_M_valueAt 108 = .ok (.ireturn, 1) := by decide +kernel
theorem d_M_valueAt_109 : decode b_M_valueAt 109 = .ok (.aload_n 0, 1) := by decide +kernel
theorem d_M_valueAt_110 : decode b_M_valueAt 110 = .ok (.getfield 31, 3) := by decide +kernel
theorem d_M_valueAt_113 : decode b_M_valueAt 113 = .ok (.iload_n 2, 1) := by decide +kernel
theorem d_M_valueAt_114 : decode b_M_valueAt 114 = .ok (.iaload, 1) := by decide +kernel
theorem d_M_valueAt_115 : decode b_M_valueAt 115 = .ok (.ireturn, 1) := by decide +kernel
theorem d_M_valueAt_116 : decode b_M_valueAt 116 = .ok (.aload_n 0, 1) := by decide +kernel
theorem d_M_valueAt_117 : decode b_M_valueAt 117 = .ok (.getfield 34, 3) := by decide +kernel
theorem d_M_valueAt_120 : decode b_M_valueAt 120 = .ok (.ireturn, 1) := by decide +kernel
theorem d_M_valueAt_121 : decode b_M_valueAt 121 = .ok (.aload_n 0, 1) := by decide +kernel
theorem d_M_valueAt_122 : decode b_M_valueAt 122 = .ok (.getfield 38, 3) := by decide +kernel
theorem d_M_valueAt_125 : decode b_M_valueAt 125 = .ok (.ireturn, 1) := by decide +kernel
theorem d_M_valueAt_126 : decode b_M_valueAt 126 = .ok (.aload_n 0, 1) := by decide +kernel
theorem d_M_valueAt_127 : decode b_M_valueAt 127 = .ok (.getfield 41, 3) := by decide +kernel
theorem d_M_valueAt_130 : decode b_M_valueAt 130 = .ok (.ireturn, 1) := by decide +kernel
theorem d_M_valueAt_131 : decode b_M_valueAt 131 = .ok (.aload_n 0, 1) := by decide +kernel
theorem d_M_valueAt_132 : decode b_M_valueAt 132 = .ok (.getfield 44, 3) := by decide +kernel
theorem d_M_valueAt_135 : decode b_M_valueAt 135 = .ok (.ireturn, 1) := by decide +kernel
theorem d_M_changes_0 : decode b_M_changes 0 = .ok (.aload_n 0, 1) := by decide +kernel
theorem d_M_changes_1 : decode b_M_changes 1 = .ok (.iload_n 1, 1) := by decide +kernel
theorem d_M_changes_2 : decode b_M_changes 2 = .ok (.iload_n 2, 1) := by decide +kernel
theorem d_M_changes_3 : decode b_M_changes 3 = .ok (.invokevirtual 167, 3) := by decide +kernel
theorem d_M_changes_6 : decode b_M_changes 6 = .ok (.istore 4, 2) := by decide +kernel
theorem d_M_changes_8 : decode b_M_changes 8 = .ok (.iload 4, 2) := by decide +kernel
theorem d_M_changes_10 : decode b_M_changes 10 = .ok (.iload_n 3, 1) := by decide +kernel
theorem d_M_changes_11 : decode b_M_changes 11 = .ok (.if_icmp .ne 6, 3) := by decide +kernel
theorem d_M_changes_14 : decode b_M_changes 14 = .ok (.iload 4, 2) := by decide +kernel
theorem d_M_changes_16 : decode b_M_changes 16 = .ok (.ireturn, 1) := by decide +kernel
theorem d_M_changes_17 : decode b_M_changes 17 = .ok (.aload_n 0, 1) := by decide +kernel
theorem d_M_changes_18 : decode b_M_changes 18 = .ok (.iconst 0, 1) := by decide +kernel
theorem d_M_changes_19 : decode b_M_changes 19 = .ok (.putfield 171, 3) := by decide +kernel
theorem d_M_changes_22 : decode b_M_changes 22 = .ok (.aload_n 0, 1) := by decide +kernel
theorem d_M_changes_23 : decode b_M_changes 23 = .ok (.getfield 174, 3) := by decide +kernel
theorem d_M_changes_26 : decode b_M_changes 26 = .ok (.bipush 40, 2) := by decide +kernel
theorem d_M_changes_28 : decode b_M_changes 28 = .ok (.if_icmp .ne 93, 3) := by decide +kernel
theorem d_M_changes_31 : decode b_M_changes 31 = .ok (.iconst 1, 1) := by decide +kernel
theorem d_M_changes_32 : decode b_M_changes 32 = .ok (.istore 5, 2) := by decide +kernel
theorem d_M_changes_34 : decode b_M_changes 34 = .ok (.iload 5, 2) := by decide +kernel
theorem d_M_changes_36 : decode b_M_changes 36 = .ok (.bipush 40, 2) := by decide +kernel
theorem d_M_changes_38 : decode b_M_changes 38 = .ok (.if_icmp .ge 73, 3) := by decide +kernel
theorem d_M_changes_41 : decode b_M_changes 41 = .ok (.aload_n 0, 1) := by decide +kernel
theorem d_M_changes_42 : decode b_M_changes 42 = .ok (.getfield 47, 3) := by decide +kernel
theorem d_M_changes_45 : decode b_M_changes 45 = .ok (.iload 5, 2) := by decide +kernel
theorem d_M_changes_47 : decode b_M_changes 47 = .ok (.iconst 1, 1) := by decide +kernel
theorem d_M_changes_48 : decode b_M_changes 48 = .ok (.isub, 1) := by decide +kernel
theorem d_M_changes_49 : decode b_M_changes 49 = .ok (.aload_n 0, 1) := by decide +kernel
theorem d_M_changes_50 : decode b_M_changes 50 = .ok (.getfield 47, 3) := by decide +kernel
theorem d_M_changes_53 : decode b_M_changes 53 = .ok (.iload 5, 2) := by decide +kernel
theorem d_M_changes_55 : decode b_M_changes 55 = .ok (.iaload, 1) := by decide +kernel
theorem d_M_changes_56 : decode b_M_changes 56 = .ok (.iastore, 1) := by decide +kernel
theorem d_M_changes_57 : decode b_M_changes 57 = .ok (.aload_n 0, 1) := by decide +kernel
theorem d_M_changes_58 : decode b_M_changes 58 = .ok (.getfield 50, 3) := by decide +kernel
theorem d_M_changes_61 : decode b_M_changes 61 = .ok (.iload 5, 2) := by decide +kernel
theorem d_M_changes_63 : decode b_M_changes 63 = .ok (.iconst 1, 1) := by decide +kernel
theorem d_M_changes_64 : decode b_M_changes 64 = .ok (.isub, 1) := by decide +kernel
theorem d_M_changes_65 : decode b_M_changes 65 = .ok (.aload_n 0, 1) := by decide +kernel
theorem d_M_changes_66 : decode b_M_changes 66 = .ok (.getfield 50, 3) := by decide +kernel
theorem d_M_changes_69 : decode b_M_changes 69 = .ok (.iload 5, 2) := by decide +kernel
theorem d_M_changes_71 : decode b_M_changes 71 = .ok (.iaload, 1) := by decide +kernel
theorem d_M_changes_72 : decode b_M_changes 72 = .ok (.iastore, 1) := by decide +kernel
theorem d_M_changes_73 : decode b_M_changes 73 = .ok (.aload_n 0, 1) := by decide +kernel
theorem d_M_changes_74 : decode b_M_changes 74 = .ok (.getfield 53, 3) := by decide +kernel
theorem d_M_changes_77 : decode b_M_changes 77 = .ok (.iload 5, 2) := by decide +kernel
theorem d_M_changes_79 : decode b_M_changes 79 = .ok (.iconst 1, 1) := by decide +kernel
theorem d_M_changes_80 : decode b_M_changes 80 = .ok (.isub, 1) := by decide +kernel
theorem d_M_changes_81 : decode b_M_changes 81 = .ok (.aload_n 0, 1) := by decide +kernel
theorem d_M_changes_82 : decode b_M_changes 82 = .ok (.getfield 53, 3) := by decide +kernel
theorem d_M_changes_85 : decode b_M_changes 85 = .ok (.iload 5, 2) := by decide +kernel
theorem d_M_changes_87 : decode b_M_changes 87 = .ok (.iaload, 1) := by decide +kernel
theorem d_M_changes_88 : decode b_M_changes 88 = .ok (.iastore, 1) := by decide +kernel
theorem d_M_changes_89 : decode b_M_changes 89 = .ok (.aload_n 0, 1) := by decide +kernel
theorem d_M_changes_90 : decode b_M_changes 90 = .ok (.getfield 56, 3) := by decide +kernel
theorem d_M_changes_93 : decode b_M_changes 93 = .ok (.iload 5, 2) := by decide +kernel
theorem d_M_changes_95 : decode b_M_changes 95 = .ok (.iconst 1, 1) := by decide +kernel
theorem d_M_changes_96 : decode b_M_changes 96 = .ok (.isub, 1) := by decide +kernel
theorem d_M_changes_97 : decode b_M_changes 97 = .ok (.aload_n 0, 1) := by decide +kernel
theorem d_M_changes_98 : decode b_M_changes 98 = .ok (.getfield 56, 3) := by decide +kernel
theorem d_M_changes_101 : decode b_M_changes 101 = .ok (.iload 5, 2) := by decide +kernel
theorem d_M_changes_103 : decode b_M_changes 103 = .ok (.iaload, 1) := by decide +kernel
theorem d_M_changes_104 : decode b_M_changes 104 = .ok (.iastore, 1) := by decide +kernel
theorem d_M_changes_105 : decode b_M_changes 105 = .ok (.iinc 5 1, 3) := by decide +kernel
theorem d_M_changes_108 : decode b_M_changes 108 = .ok (.goto (-74), 3) := by decide +kernel
theorem d_M_changes_111 : decode b_M_changes 111 = .ok (.aload_n 0, 1) := by decide +kernel
theorem d_M_changes_112 : decode b_M_changes 112 = .ok (.dup, 1) := by decide +kernel
theorem d_M_changes_113 : decode b_M_changes 113 = .ok (.getfield 174, 3) := by decide +kernel
theorem d_M_changes_116 : decode b_M_changes 116 = .ok (.iconst 1, 1) := by decide +kernel
theorem d_M_changes_117 : decode b_M_changes 117 = .ok (.isub, 1) := by decide +kernel
theorem d_M_changes_118 : decode b_M_changes 118 = .ok (.putfield 174, 3) := by decide +kernel
theorem d_M_changes_121 : decode b_M_changes 121 = .ok (.aload_n 0, 1) := by decide +kernel
theorem d_M_changes_122 : decode b_M_changes 122 = .ok (.getfield 47, 3) := by decide +kernel
theorem d_M_changes_125 : decode b_M_changes 125 = .ok (.aload_n 0, 1) := by decide +kernel
theorem d_M_changes_126 : decode b_M_changes 126 = .ok (.getfield 174, 3) := by decide +kernel
theorem d_M_changes_129 : decode b_M_changes 129 = .ok (.iload_n 1, 1) := by decide +kernel
theorem d_M_changes_130 : decode b_M_changes 130 = .ok (.iastore, 1) := by decide +kernel
theorem d_M_changes_131 : decode b_M_changes 131 = .ok (.aload_n 0, 1) := by decide +kernel
theorem d_M_changes_132 : decode b_M_changes 132 = .ok (.getfield 50, 3) := by decide +kernel
theorem d_M_changes_135 : decode b_M_changes 135 = .ok (.aload_n 0, 1) := by decide +kernel
theorem d_M_changes_136 : decode b_M_changes 136 = .ok (.getfield 174, 3) := by decide +kernel
theorem d_M_changes_139 : decode b_M_changes 139 = .ok (.iload_n 2, 1) := by decide +kernel
theorem d_M_changes_140 : decode b_M_changes 140 = .ok (.iastore, 1) := by decide +kernel
theorem d_M_changes_141 : decode b_M_changes 141 = .ok (.aload_n 0, 1) := by decide +kernel
theorem d_M_changes_142 : decode b_M_changes 142 = .ok (.getfield 53, 3) := by decide +kernel
theorem d_M_changes_145 : decode b_M_changes 145 = .ok (.aload_n 0, 1) := by decide +kernel
theorem d_M_changes_146 : decode b_M_changes 146 = .ok (.getfield 174, 3) := by decide +kernel
theorem d_M_changes_149 : decode b_M_changes 149 = .ok (.iload 4, 2) := by decide +kernel
theorem d_M_changes_151 : decode b_M_changes 151 = .ok (.iastore, 1) := by decide +kernel
theorem d_M_changes_152 : decode b_M_changes 152 = .ok (.aload_n 0, 1) := by decide +kernel
theorem d_M_changes_153 : decode b_M_changes 153 = .ok (.getfield 56, 3) := by decide +kernel
theorem d_M_changes_156 : decode b_M_changes 156 = .ok (.aload_n 0, 1) := by decide +kernel
theorem d_M_changes_157 : decode b_M_changes 157 = .ok (.getfield 174, 3) := by decide +kernel
theorem d_M_changes_160 : decode b_M_changes 160 = .ok (.iload_n 3, 1) := by decide +kernel
theorem d_M_changes_161 : decode b_M_changes 161 = .ok (.iastore, 1) := by decide +kernel
theorem d_M_changes_162 : decode b_M_changes 162 = .ok (.aload_n 0, 1) := by decide +kernel
theorem d_M_changes_163 : decode b_M_changes 163 = .ok (.dup, 1) := by decide +kernel
theorem d_M_changes_164 : decode b_M_changes 164 = .ok (.getfield 174, 3) := by decide +kernel
theorem d_M_changes_167 : decode b_M_changes 167 = .ok (.iconst 1, 1) := by decide +kernel
theorem d_M_changes_168 : decode b_M_changes 168 = .ok (.iadd, 1) := by decide +kernel
theorem d_M_changes_169 : decode b_M_changes 169 = .ok (.putfield 174, 3) := by decide +kernel
theorem d_M_changes_172 : decode b_M_changes 172 = .ok (.aload_n 0, 1) := by decide +kernel
theorem d_M_changes_173 : decode b_M_changes 173 = .ok (.iload_n 1, 1) := by decide +kernel
theorem d_M_changes_174 : decode b_M_changes 174 = .ok (.iload_n 2, 1) := by decide +kernel
theorem d_M_changes_175 : decode b_M_changes 175 = .ok (.iload_n 3, 1) := by decide +kernel
theorem d_M_changes_176 : decode b_M_changes 176 = .ok (.invokevirtual 177, 3) := by decide +kernel
theorem d_M_changes_179 : decode b_M_changes 179 = .ok (.iload 4, 2) := by decide +kernel
theorem d_M_changes_181 : decode b_M_changes 181 = .ok (.ireturn, 1) := by decide +kernel
theorem d_M_cloths_0 : decode b_M_cloths 0 = .ok (.aload_n 0, 1) := by decide +kernel
theorem d_M_cloths_1 : decode b_M_cloths 1 = .ok (.iload_n 1, 1) := by decide +kernel
theorem d_M_cloths_2 : decode b_M_cloths 2 = .ok (.invokevirtual 289, 3) := by decide +kernel
theorem d_M_cloths_5 : decode b_M_cloths 5 = .ok (.ifCond .eq 10, 3) := by decide +kernel
theorem d_M_cloths_8 : decode b_M_cloths 8 = .ok (.iload_n 2, 1) := by decide +kernel
theorem d_M_cloths_9 : decode b_M_cloths 9 = .ok (.invokestatic 305, 3) := by decide +kernel
theorem d_M_cloths_12 : decode b_M_cloths 12 = .ok (.ifCond .ne 5, 3) := by decide +kernel
theorem d_M_cloths_15 : decode b_M_cloths 15 = .ok (.iconst (-1), 1) := by decide +kernel
theorem d_M_cloths_16 : decode b_M_cloths 16 = .ok (.ireturn, 1) := by decide +kernel
theorem d_M_cloths_17 : decode b_M_cloths 17 = .ok (.iconst 0, 1) := by decide +kernel
theorem d_M_cloths_18 : decode b_M_cloths 18 = .ok (.istore_n 3, 1) := by decide +kernel
theorem d_M_cloths_19 : decode b_M_cloths 19 = .ok (.iload_n 3, 1) := by decide +kernel
theorem d_M_cloths_20 : decode b_M_cloths 20 = .ok (.bipush 9, 2) := by decide +kernel
theorem d_M_cloths_22 : decode b_M_cloths 22 = .ok (.if_icmp .gt 33, 3) := by decide +kernel
theorem d_M_cloths_25 : decode b_M_cloths 25 = .ok (.aload_n 0, 1) := by decide +kernel
theorem d_M_cloths_26 : decode b_M_cloths 26 = .ok (.iload_n 1, 1) := by decide +kernel
theorem d_M_cloths_27 : decode b_M_cloths 27 = .ok (.iload_n 2, 1) := by decide +kernel
theorem d_M_cloths_28 : decode b_M_cloths 28 = .ok (.bipush 100, 2) := by decide +kernel
theorem d_M_cloths_30 : decode b_M_cloths 30 = .ok (.idiv, 1) := by decide +kernel
theorem d_M_cloths_31 : decode b_M_cloths 31 = .ok (.iload_n 3, 1) := by decide +kernel
theorem d_M_cloths_32 : decode b_M_cloths 32 = .ok (.aload_n 0, 1) := by decide +kernel
theorem d_M_cloths_33 : decode b_M_cloths 33 = .ok (.getfield 38, 3) := by decide +kernel
theorem d_M_cloths_36 : decode b_M_cloths 36 = .ok (.imul, 1) := by decide +kernel
theorem d_M_cloths_37 : decode b_M_cloths 37 = .ok (.iload_n 2, 1) := by decide +kernel
theorem d_M_cloths_38 : decode b_M_cloths 38 = .ok (.bipush 100, 2) := by decide +kernel
theorem d_M_cloths_40 : decode b_M_cloths 40 = .ok (.irem, 1) := by decide +kernel
theorem d_M_cloths_41 : decode b_M_cloths 41 = .ok (.invokevirtual 301, 3) := by decide +kernel
theorem d_M_cloths_44 : decode b_M_cloths 44 = .ok (.ifCond .eq 5, 3) := by decide +kernel
theorem d_M_cloths_47 : decode b_M_cloths 47 = .ok (.iload_n 3, 1) := by decide +kernel
theorem d_M_cloths_48 : decode b_M_cloths 48 = .ok (.ireturn, 1) := by decide +kernel
theorem d_M_cloths_49 : decode b_M_cloths 49 = .ok (.iinc 3 1, 3) := by decide +kernel
theorem d_M_cloths_52 : decode b_M_cloths 52 = .ok (.goto (-33), 3) := by decide +kernel
theorem d_M_cloths_55 : decode b_M_cloths 55 = .ok (.bipush (-2), 2) := by decide +kernel
theorem d_M_cloths_57 : decode b_M_cloths 57 = .ok (.ireturn, 1) := by decide +kernel
theorem d_M_tints_0 : decode b_M_tints 0 = .ok (.aload_n 0, 1) := by decide +kernel
theorem d_M_tints_1 : decode b_M_tints 1 = .ok (.iload_n 1, 1) := by decide +kernel
theorem d_M_tints_2 : decode b_M_tints 2 = .ok (.iload_n 2, 1) := by decide +kernel
theorem d_M_tints_3 : decode b_M_tints 3 = .ok (.iload_n 3, 1) := by decide +kernel
theorem d_M_tints_4 : decode b_M_tints 4 = .ok (.invokevirtual 277, 3) := by decide +kernel
theorem d_M_tints_7 : decode b_M_tints 7 = .ok (.istore 4, 2) := by decide +kernel
theorem d_M_tints_9 : decode b_M_tints 9 = .ok (.iconst 0, 1) := by decide +kernel
theorem d_M_tints_10 : decode b_M_tints 10 = .ok (.istore 5, 2) := by decide +kernel
theorem d_M_tints_12 : decode b_M_tints 12 = .ok (.iconst 0, 1) := by decide +kernel
theorem d_M_tints_13 : decode b_M_tints 13 = .ok (.istore 6, 2) := by decide +kernel
theorem d_M_tints_15 : decode b_M_tints 15 = .ok (.iload 6, 2) := by decide +kernel
theorem d_M_tints_17 : decode b_M_tints 17 = .ok (.aload_n 0, 1) := by decide +kernel
theorem d_M_tints_18 : decode b_M_tints 18 = .ok (.getfield 150, 3) := by decide +kernel
theorem d_M_tints_21 : decode b_M_tints 21 = .ok (.if_icmp .ge 33, 3) := by decide +kernel
theorem d_M_tints_24 : decode b_M_tints 24 = .ok (.iload_n 1, 1) := by decide +kernel
theorem d_M_tints_25 : decode b_M_tints 25 = .ok (.iload 6, 2) := by decide +kernel
theorem d_M_tints_27 : decode b_M_tints 27 = .ok (.ishr, 1) := by decide +kernel
theorem d_M_tints_28 : decode b_M_tints 28 = .ok (.iconst 1, 1) := by decide +kernel
theorem d_M_tints_29 : decode b_M_tints 29 = .ok (.iand, 1) := by decide +kernel
theorem d_M_tints_30 : decode b_M_tints 30 = .ok (.iconst 1, 1) := by decide +kernel
theorem d_M_tints_31 : decode b_M_tints 31 = .ok (.if_icmp .ne 17, 3) := by decide +kernel
theorem d_M_tints_34 : decode b_M_tints 34 = .ok (.iload 5, 2) := by decide +kernel
theorem d_M_tints_36 : decode b_M_tints 36 = .ok (.aload_n 0, 1) := by decide +kernel
theorem d_M_tints_37 : decode b_M_tints 37 = .ok (.iload 6, 2) := by decide +kernel
theorem d_M_tints_39 : decode b_M_tints 39 = .ok (.iload 4, 2) := by decide +kernel
theorem d_M_tints_41 : decode b_M_tints 41 = .ok (.iload_n 2, 1) := by decide +kernel
theorem d_M_tints_42 : decode b_M_tints 42 = .ok (.invokevirtual 280, 3) := by decide +kernel
theorem d_M_tints_45 : decode b_M_tints 45 = .ok (.iadd, 1) := by decide +kernel
theorem d_M_tints_46 : decode b_M_tints 46 = .ok (.istore 5, 2) := by decide +kernel
theorem d_M_tints_48 : decode b_M_tints 48 = .ok (.iinc 6 1, 3) := by decide +kernel
theorem d_M_tints_51 : decode b_M_tints 51 = .ok (.goto (-36), 3) := by decide +kernel
theorem d_M_tints_54 : decode b_M_tints 54 = .ok (.iload 5, 2) := by decide +kernel
theorem d_M_tints_56 : decode b_M_tints 56 = .ok (.ireturn, 1) := by decide +kernel
theorem d_M_heapTints_0 : decode b_M_heapTints 0 = .ok (.iconst 0, 1) := by decide +kernel
theorem d_M_heapTints_1 : decode b_M_heapTints 1 = .ok (.istore_n 3, 1) := by decide +kernel
theorem d_M_heapTints_2 : decode b_M_heapTints 2 = .ok (.iconst 0, 1) := by decide +kernel
theorem d_M_heapTints_3 : decode b_M_heapTints 3 = .ok (.istore 4, 2) := by decide +kernel
theorem d_M_heapTints_5 : decode b_M_heapTints 5 = .ok (.iload 4, 2) := by decide +kernel
theorem d_M_heapTints_7 : decode b_M_heapTints 7 = .ok (.iload_n 1, 1) := by decide +kernel
theorem d_M_heapTints_8 : decode b_M_heapTints 8 = .ok (.if_icmp .ge 56, 3) := by decide +kernel
theorem d_M_heapTints_11 : decode b_M_heapTints 11 = .ok (.aload_n 0, 1) := by decide +kernel
theorem d_M_heapTints_12 : decode b_M_heapTints 12 = .ok (.aload_n 0, 1) := by decide +kernel
theorem d_M_heapTints_13 : decode b_M_heapTints 13 = .ok (.getfield 85, 3) := by decide +kernel
theorem d_M_heapTints_16 : decode b_M_heapTints 16 = .ok (.iload 4, 2) := by decide +kernel
theorem d_M_heapTints_18 : decode b_M_heapTints 18 = .ok (.iaload, 1) := by decide +kernel
theorem d_M_heapTints_19 : decode b_M_heapTints 19 = .ok (.invokevirtual 283, 3) := by decide +kernel
theorem d_M_heapTints_22 : decode b_M_heapTints 22 = .ok (.ifCond .eq 18, 3) := by decide +kernel
theorem d_M_heapTints_25 : decode b_M_heapTints 25 = .ok (.aload_n 0, 1) := by decide +kernel
theorem d_M_heapTints_26 : decode b_M_heapTints 26 = .ok (.aload_n 0, 1) := by decide +kernel
theorem d_M_heapTints_27 : decode b_M_heapTints 27 = .ok (.getfield 85, 3) := by decide +kernel
theorem d_M_heapTints_30 : decode b_M_heapTints 30 = .ok (.iload 4, 2) := by decide +kernel
theorem d_M_heapTints_32 : decode b_M_heapTints 32 = .ok (.iaload, 1) := by decide +kernel
theorem d_M_heapTints_33 : decode b_M_heapTints 33 = .ok (.iload_n 2, 1) := by decide +kernel
theorem d_M_heapTints_34 : decode b_M_heapTints 34 = .ok (.invokevirtual 286, 3) := by decide +kernel
theorem d_M_heapTints_37 : decode b_M_heapTints 37 = .ok (.ifCond .eq 5, 3) := by decide +kernel
theorem d_M_heapTints_40 : decode b_M_heapTints 40 = .ok (.iconst (-1), 1) := by decide +kernel
theorem d_M_heapTints_41 : decode b_M_heapTints 41 = .ok (.ireturn, 1) := by decide +kernel
theorem d_M_heapTints_42 : decode b_M_heapTints 42 = .ok (.iload_n 3, 1) := by decide +kernel
theorem d_M_heapTints_43 : decode b_M_heapTints 43 = .ok (.aload_n 0, 1) := by decide +kernel
theorem d_M_heapTints_44 : decode b_M_heapTints 44 = .ok (.aload_n 0, 1) := by decide +kernel
theorem d_M_heapTints_45 : decode b_M_heapTints 45 = .ok (.getfield 85, 3) := by decide +kernel
theorem d_M_heapTints_48 : decode b_M_heapTints 48 = .ok (.iload 4, 2) := by decide +kernel
theorem d_M_heapTints_50 : decode b_M_heapTints 50 = .ok (.iaload, 1) := by decide +kernel
theorem d_M_heapTints_51 : decode b_M_heapTints 51 = .ok (.iload_n 2, 1) := by decide +kernel
theorem d_M_heapTints_52 : decode b_M_heapTints 52 = .ok (.iconst 0, 1) := by decide +kernel
theorem d_M_heapTints_53 : decode b_M_heapTints 53 = .ok (.invokevirtual 298, 3) := by decide +kernel
theorem d_M_heapTints_56 : decode b_M_heapTints 56 = .ok (.iadd, 1) := by decide +kernel
theorem d_M_heapTints_57 : decode b_M_heapTints 57 = .ok (.istore_n 3, 1) := by decide +kernel
theorem d_M_heapTints_58 : decode b_M_heapTints 58 = .ok (.iinc 4 1, 3) := by decide +kernel
theorem d_M_heapTints_61 : decode b_M_heapTints 61 = .ok (.goto (-56), 3) := by decide +kernel
theorem d_M_heapTints_64 : decode b_M_heapTints 64 = .ok (.iload_n 3, 1) := by decide +kernel
theorem d_M_heapTints_65 : decode b_M_heapTints 65 = .ok (.ireturn, 1) := by decide +kernel
theorem d_M_goCost_0 : decode b_M_goCost 0 = .ok (.iload_n 2, 1) := by decide +kernel
theorem d_M_goCost_1 : decode b_M_goCost 1 = .ok (.aload_n 0, 1) := by decide +kernel
theorem d_M_goCost_2 : decode b_M_goCost 2 = .ok (.getfield 150, 3) := by decide +kernel
theorem d_M_goCost_5 : decode b_M_goCost 5 = .ok (.if_icmp .ne 43, 3) := by decide +kernel
theorem d_M_goCost_8 : decode b_M_goCost 8 = .ok (.aload_n 0, 1) := by decide +kernel
theorem d_M_goCost_9 : decode b_M_goCost 9 = .ok (.iload_n 3, 1) := by decide +kernel
theorem d_M_goCost_10 : decode b_M_goCost 10 = .ok (.iload 4, 2) := by decide +kernel
theorem d_M_goCost_12 : decode b_M_goCost 12 = .ok (.bipush 10, 2) := by decide +kernel
theorem d_M_goCost_14 : decode b_M_goCost 14 = .ok (.idiv, 1) := by decide +kernel
theorem d_M_goCost_15 : decode b_M_goCost 15 = .ok (.invokevirtual 321, 3) := by decide +kernel
theorem d_M_goCost_18 : decode b_M_goCost 18 = .ok (.istore 5, 2) := by decide +kernel
theorem d_M_goCost_20 : decode b_M_goCost 20 = .ok (.iload 5, 2) := by decide +kernel
theorem d_M_goCost_22 : decode b_M_goCost 22 = .ok (.ifCond .lt 25, 3) := by decide +kernel
theorem d_M_goCost_25 : decode b_M_goCost 25 = .ok (.aload_n 0, 1) := by decide +kernel
theorem d_M_goCost_26 : decode b_M_goCost 26 = .ok (.getfield 324, 3) := by decide +kernel
theorem d_M_goCost_29 : decode b_M_goCost 29 = .ok (.ifCond .lt 12, 3) := by decide +kernel
theorem d_M_goCost_32 : decode b_M_goCost 32 = .ok (.iload 5, 2) := by decide +kernel
theorem d_M_goCost_34 : decode b_M_goCost 34 = .ok (.aload_n 0, 1) := by decide +kernel
theorem d_M_goCost_35 : decode b_M_goCost 35 = .ok (.getfield 324, 3) := by decide +kernel
theorem d_M_goCost_38 : decode b_M_goCost 38 = .ok (.if_icmp .ge 9, 3) := by decide +kernel
theorem d_M_goCost_41 : decode b_M_goCost 41 = .ok (.aload_n 0, 1) := by decide +kernel
theorem d_M_goCost_42 : decode b_M_goCost 42 = .ok (.iload 5, 2) := by decide +kernel
theorem d_M_goCost_44 : decode b_M_goCost 44 = .ok (.putfield 324, 3) := by decide +kernel
theorem d_M_goCost_47 : decode b_M_goCost 47 = .ok (.return_, 1) := by decide +kernel
theorem d_M_goCost_48 : decode b_M_goCost 48 = .ok (.iload_n 1, 1) := by decide +kernel
theorem d_M_goCost_49 : decode b_M_goCost 49 = .ok (.iload_n 2, 1) := by decide +kernel
theorem d_M_goCost_50 : decode b_M_goCost 50 = .ok (.ishr, 1) := by decide +kernel
theorem d_M_goCost_51 : decode b_M_goCost 51 = .ok (.iconst 1, 1) := by decide +kernel
theorem d_M_goCost_52 : decode b_M_goCost 52 = .ok (.iand, 1) := by decide +kernel
theorem d_M_goCost_53 : decode b_M_goCost 53 = .ok (.ifCond .ne 15, 3) := by decide +kernel
theorem d_M_goCost_56 : decode b_M_goCost 56 = .ok (.aload_n 0, 1) := by decide +kernel
theorem d_M_goCost_57 : decode b_M_goCost 57 = .ok (.iload_n 1, 1) := by decide +kernel
theorem d_M_goCost_58 : decode b_M_goCost 58 = .ok (.iload_n 2, 1) := by decide +kernel
theorem d_M_goCost_59 : decode b_M_goCost 59 = .ok (.iconst 1, 1) := by decide +kernel
theorem d_M_goCost_60 : decode b_M_goCost 60 = .ok (.iadd, 1) := by decide +kernel
theorem d_M_goCost_61 : decode b_M_goCost 61 = .ok (.iload_n 3, 1) := by decide +kernel
theorem d_M_goCost_62 : decode b_M_goCost 62 = .ok (.iload 4, 2) := by decide +kernel
theorem d_M_goCost_64 : decode b_M_goCost 64 = .ok (.invokevirtual 327, 3) := by decide +kernel
theorem d_M_goCost_67 : decode b_M_goCost 67 = .ok (.return_, 1) := by decide +kernel
theorem d_M_goCost_68 : decode b_M_goCost 68 = .ok (.iconst 0, 1) := by decide +kernel
theorem d_M_goCost_69 : decode b_M_goCost 69 = .ok (.istore 5, 2) := by decide +kernel
theorem d_M_goCost_71 : decode b_M_goCost 71 = .ok (.iload 5, 2) := by decide +kernel
theorem d_M_goCost_73 : decode b_M_goCost 73 = .ok (.iload_n 3, 1) := by decide +kernel
theorem d_M_goCost_74 : decode b_M_goCost 74 = .ok (.if_icmp .gt 83, 3) := by decide +kernel
theorem d_M_goCost_77 : decode b_M_goCost 77 = .ok (.iload 5, 2) := by decide +kernel
theorem d_M_goCost_79 : decode b_M_goCost 79 = .ok (.iload 4, 2) := by decide +kernel
theorem d_M_goCost_81 : decode b_M_goCost 81 = .ok (.bipush 10, 2) := by decide +kernel
theorem d_M_goCost_83 : decode b_M_goCost 83 = .ok (.irem, 1) := by decide +kernel
theorem d_M_goCost_84 : decode b_M_goCost 84 = .ok (.if_icmp .ge 73, 3) := by decide +kernel
theorem d_M_goCost_87 : decode b_M_goCost 87 = .ok (.iload 5, 2) := by decide +kernel
theorem d_M_goCost_89 : decode b_M_goCost 89 = .ok (.iload_n 3, 1) := by decide +kernel
theorem d_M_goCost_90 : decode b_M_goCost 90 = .ok (.if_icmp .ne 7, 3) := by decide +kernel
theorem d_M_goCost_93 : decode b_M_goCost 93 = .ok (.iconst 0, 1) := by decide +kernel
theorem d_M_goCost_94 : decode b_M_goCost 94 = .ok (.goto 10, 3) := by decide +kernel
theorem d_M_goCost_97 : decode b_M_goCost 97 = .ok (.aload_n 0, 1) := by decide +kernel
theorem d_M_goCost_98 : decode b_M_goCost 98 = .ok (.getfield 85, 3) := by decide +kernel
theorem d_M_goCost_101 : decode b_M_goCost 101 = .ok (.iload 5, 2) := by decide +kernel
theorem d_M_goCost_103 : decode b_M_goCost 103 = .ok (.iaload, 1) := by decide +kernel
theorem d_M_goCost_104 : decode b_M_goCost 104 = .ok (.istore 6, 2) := by decide +kernel
theorem d_M_goCost_106 : decode b_M_goCost 106 = .ok (.aload_n 0, 1) := by decide +kernel
theorem d_M_goCost_107 : decode b_M_goCost 107 = .ok (.getfield 85, 3) := by decide +kernel
theorem d_M_goCost_110 : decode b_M_goCost 110 = .ok (.iload 5, 2) := by decide +kernel
theorem d_M_goCost_112 : decode b_M_goCost 112 = .ok (.iload 6, 2) := by decide +kernel
theorem d_M_goCost_114 : decode b_M_goCost 114 = .ok (.iconst 1, 1) := by decide +kernel
theorem d_M_goCost_115 : decode b_M_goCost 115 = .ok (.iload_n 2, 1) := by decide +kernel
theorem d_M_goCost_116 : decode b_M_goCost 116 = .ok (.ishl, 1) := by decide +kernel
theorem d_M_goCost_117 : decode b_M_goCost 117 = .ok (.ior, 1) := by decide +kernel
theorem d_M_goCost_118 : decode b_M_goCost 118 = .ok (.iastore, 1) := by decide +kernel
theorem d_M_goCost_119 : decode b_M_goCost 119 = .ok (.aload_n 0, 1) := by decide +kernel
theorem d_M_goCost_120 : decode b_M_goCost 120 = .ok (.iload_n 1, 1) := by decide +kernel
theorem d_M_goCost_121 : decode b_M_goCost 121 = .ok (.iload_n 2, 1) := by decide +kernel
theorem d_M_goCost_122 : decode b_M_goCost 122 = .ok (.iconst 1, 1) := by decide +kernel
theorem d_M_goCost_123 : decode b_M_goCost 123 = .ok (.iadd, 1) := by decide +kernel
theorem d_M_goCost_124 : decode b_M_goCost 124 = .ok (.iload 5, 2) := by decide +kernel
theorem d_M_goCost_126 : decode b_M_goCost 126 = .ok (.iload_n 3, 1) := by decide +kernel
theorem d_M_goCost_127 : decode b_M_goCost 127 = .ok (.if_icmp .ne 9, 3) := by decide +kernel
theorem d_M_goCost_130 : decode b_M_goCost 130 = .ok (.iload_n 3, 1) := by decide +kernel
theorem d_M_goCost_131 : decode b_M_goCost 131 = .ok (.iconst 1, 1) := by decide +kernel
theorem d_M_goCost_132 : decode b_M_goCost 132 = .ok (.iadd, 1) := by decide +kernel
theorem d_M_goCost_133 : decode b_M_goCost 133 = .ok (.goto 4, 3) := by decide +kernel
theorem d_M_goCost_136 : decode b_M_goCost 136 = .ok (.iload_n 3, 1) := by decide +kernel
theorem d_M_goCost_137 : decode b_M_goCost 137 = .ok (.iload 4, 2) := by decide +kernel
theorem d_M_goCost_139 : decode b_M_goCost 139 = .ok (.invokevirtual 327, 3) := by decide +kernel
theorem d_M_goCost_142 : decode b_M_goCost 142 = .ok (.aload_n 0, 1) := by decide +kernel
theorem d_M_goCost_143 : decode b_M_goCost 143 = .ok (.getfield 85, 3) := by decide +kernel
theorem d_M_goCost_146 : decode b_M_goCost 146 = .ok (.iload 5, 2) := by decide +kernel
theorem d_M_goCost_148 : decode b_M_goCost 148 = .ok (.iload 6, 2) := by decide +kernel
theorem d_M_goCost_150 : decode b_M_goCost 150 = .ok (.iastore, 1) := by decide +kernel
theorem d_M_goCost_151 : decode b_M_goCost 151 = .ok (.iinc 5 1, 3) := by decide +kernel
theorem d_M_goCost_154 : decode b_M_goCost 154 = .ok (.goto (-83), 3) := by decide +kernel
theorem d_M_goCost_157 : decode b_M_goCost 157 = .ok (.return_, 1) := by decide +kernel
theorem d_M_cost_0 : decode b_M_cost 0 = .ok (.aload_n 0, 1) := by decide +kernel
theorem d_M_cost_1 : decode b_M_cost 1 = .ok (.iload_n 1, 1) := by decide +kernel
theorem d_M_cost_2 : decode b_M_cost 2 = .ok (.invokevirtual 289, 3) := by decide +kernel
theorem d_M_cost_5 : decode b_M_cost 5 = .ok (.ifCond .eq 40, 3) := by decide +kernel
theorem d_M_cost_8 : decode b_M_cost 8 = .ok (.iload_n 2, 1) := by decide +kernel
theorem d_M_cost_9 : decode b_M_cost 9 = .ok (.ifCond .lt 36, 3) := by decide +kernel
theorem d_M_cost_12 : decode b_M_cost 12 = .ok (.iload_n 2, 1) := by decide +kernel
theorem d_M_cost_13 : decode b_M_cost 13 = .ok (.bipush 10, 2) := by decide +kernel
theorem d_M_cost_15 : decode b_M_cost 15 = .ok (.idiv, 1) := by decide +kernel
theorem d_M_cost_16 : decode b_M_cost 16 = .ok (.invokestatic 271, 3) := by decide +kernel
theorem d_M_cost_19 : decode b_M_cost 19 = .ok (.ifCond .eq 26, 3) := by decide +kernel
theorem d_M_cost_22 : decode b_M_cost 22 = .ok (.iload_n 2, 1) := by decide +kernel
theorem d_M_cost_23 : decode b_M_cost 23 = .ok (.bipush 10, 2) := by decide +kernel
theorem d_M_cost_25 : decode b_M_cost 25 = .ok (.irem, 1) := by decide +kernel
theorem d_M_cost_26 : decode b_M_cost 26 = .ok (.iconst 1, 1) := by decide +kernel
theorem d_M_cost_27 : decode b_M_cost 27 = .ok (.bipush 6, 2) := by decide +kernel
theorem d_M_cost_29 : decode b_M_cost 29 = .ok (.invokestatic 153, 3) := by decide +kernel
theorem d_M_cost_32 : decode b_M_cost 32 = .ok (.ifCond .eq 13, 3) := by decide +kernel
theorem d_M_cost_35 : decode b_M_cost 35 = .ok (.iload_n 3, 1) := by decide +kernel
theorem d_M_cost_36 : decode b_M_cost 36 = .ok (.iconst 0, 1) := by decide +kernel
theorem d_M_cost_37 : decode b_M_cost 37 = .ok (.bipush 99, 2) := by decide +kernel
theorem d_M_cost_39 : decode b_M_cost 39 = .ok (.invokestatic 153, 3) := by decide +kernel
theorem d_M_cost_42 : decode b_M_cost 42 = .ok (.ifCond .ne 5, 3) := by decide +kernel
theorem d_M_cost_45 : decode b_M_cost 45 = .ok (.iconst (-1), 1) := by decide +kernel
theorem d_M_cost_46 : decode b_M_cost 46 = .ok (.ireturn, 1) := by decide +kernel
theorem d_M_cost_47 : decode b_M_cost 47 = .ok (.iload_n 1, 1) := by decide +kernel
theorem d_M_cost_48 : decode b_M_cost 48 = .ok (.invokestatic 318, 3) := by decide +kernel
theorem d_M_cost_51 : decode b_M_cost 51 = .ok (.bipush 7, 2) := by decide +kernel
theorem d_M_cost_53 : decode b_M_cost 53 = .ok (.if_icmp .le 6, 3) := by decide +kernel
theorem d_M_cost_56 : decode b_M_cost 56 = .ok (.bipush (-5), 2) := by decide +kernel
theorem d_M_cost_58 : decode b_M_cost 58 = .ok (.ireturn, 1) := by decide +kernel
theorem d_M_cost_59 : decode b_M_cost 59 = .ok (.aload_n 0, 1) := by decide +kernel
theorem d_M_cost_60 : decode b_M_cost 60 = .ok (.iconst (-1), 1) := by decide +kernel
theorem d_M_cost_61 : decode b_M_cost 61 = .ok (.putfield 324, 3) := by decide +kernel
theorem d_M_cost_64 : decode b_M_cost 64 = .ok (.aload_n 0, 1) := by decide +kernel
theorem d_M_cost_65 : decode b_M_cost 65 = .ok (.iload_n 1, 1) := by decide +kernel
theorem d_M_cost_66 : decode b_M_cost 66 = .ok (.iconst 0, 1) := by decide +kernel
theorem d_M_cost_67 : decode b_M_cost 67 = .ok (.iconst 0, 1) := by decide +kernel
theorem d_M_cost_68 : decode b_M_cost 68 = .ok (.iload_n 2, 1) := by decide +kernel
theorem d_M_cost_69 : decode b_M_cost 69 = .ok (.invokevirtual 327, 3) := by decide +kernel
theorem d_M_cost_72 : decode b_M_cost 72 = .ok (.aload_n 0, 1) := by decide +kernel
theorem d_M_cost_73 : decode b_M_cost 73 = .ok (.getfield 324, 3) := by decide +kernel
theorem d_M_cost_76 : decode b_M_cost 76 = .ok (.ifCond .ge 8, 3) := by decide +kernel
theorem d_M_cost_79 : decode b_M_cost 79 = .ok (.bipush (-2), 2) := by decide +kernel
theorem d_M_cost_81 : decode b_M_cost 81 = .ok (.goto 9, 3) := by decide +kernel
theorem d_M_cost_84 : decode b_M_cost 84 = .ok (.aload_n 0, 1) := by decide +kernel
theorem d_M_cost_85 : decode b_M_cost 85 = .ok (.getfield 324, 3) := by decide +kernel
theorem d_M_cost_88 : decode b_M_cost 88 = .ok (.iload_n 3, 1) := by decide +kernel
theorem d_M_cost_89 : decode b_M_cost 89 = .ok (.imul, 1) := by decide +kernel
theorem d_M_cost_90 : decode b_M_cost 90 = .ok (.ireturn, 1) := by decide +kernel
theorem d_M_leftMany_0 : decode b_M_leftMany 0 = .ok (.iconst 0, 1) := by decide +kernel
theorem d_M_leftMany_1 : decode b_M_leftMany 1 = .ok (.istore_n 1, 1) := by decide +kernel
theorem d_M_leftMany_2 : decode b_M_leftMany 2 = .ok (.iconst 0, 1) := by decide +kernel
theorem d_M_leftMany_3 : decode b_M_leftMany 3 = .ok (.istore_n 2, 1) := by decide +kernel
theorem d_M_leftMany_4 : decode b_M_leftMany 4 = .ok (.iload_n 2, 1) := by decide +kernel
theorem d_M_leftMany_5 : decode b_M_leftMany 5 = .ok (.aload_n 0, 1) := by decide +kernel
theorem d_M_leftMany_6 : decode b_M_leftMany 6 = .ok (.getfield 150, 3) := by decide +kernel
theorem d_M_leftMany_9 : decode b_M_leftMany 9 = .ok (.if_icmp .ge 21, 3) := by decide +kernel
theorem d_M_leftMany_12 : decode b_M_leftMany 12 = .ok (.aload_n 0, 1) := by decide +kernel
theorem d_M_leftMany_13 : decode b_M_leftMany 13 = .ok (.getfield 109, 3) := by decide +kernel
theorem d_M_leftMany_16 : decode b_M_leftMany 16 = .ok (.iload_n 2, 1) := by decide +kernel
theorem d_M_leftMany_17 : decode b_M_leftMany 17 = .ok (.baload, 1) := by decide +kernel
theorem d_M_leftMany_18 : decode b_M_leftMany 18 = .ok (.ifCond .ne 6, 3) := by decide +kernel
theorem d_M_leftMany_21 : decode b_M_leftMany 21 = .ok (.iinc 1 1, 3) := by decide +kernel
theorem d_M_leftMany_24 : decode b_M_leftMany 24 = .ok (.iinc 2 1, 3) := by decide +kernel
theorem d_M_leftMany_27 : decode b_M_leftMany 27 = .ok (.goto (-23), 3) := by decide +kernel
theorem d_M_leftMany_30 : decode b_M_leftMany 30 = .ok (.iload_n 1, 1) := by decide +kernel
theorem d_M_leftMany_31 : decode b_M_leftMany 31 = .ok (.ireturn, 1) := by decide +kernel
theorem d_M_count_0 : decode b_M_count 0 = .ok (.iload_n 1, 1) := by decide +kernel
theorem d_M_count_1 : decode b_M_count 1 = .ok (.tableswitch 69 0 5 #[39, 44, 49, 54, 59, 64], 39) := by decide +kernel
theorem d_M_count_40 : decode b_M_count 40 = .ok (.aload_n 0, 1) := by decide +kernel
theorem d_M_count_41 : decode b_M_count 41 = .ok (.getfield 150, 3) := by decide +kernel
theorem d_M_count_44 : decode b_M_count 44 = .ok (.ireturn, 1) := by decide +kernel
theorem d_M_count_45 : decode b_M_count 45 = .ok (.aload_n 0, 1) := by decide +kernel
theorem d_M_count_46 : decode b_M_count 46 = .ok (.invokevirtual 373, 3) := by decide +kernel
theorem d_M_count_49 : decode b_M_count 49 = .ok (.ireturn, 1) := by decide +kernel
theorem d_M_count_50 : decode b_M_count 50 = .ok (.aload_n 0, 1) := by decide +kernel
theorem d_M_count_51 : decode b_M_count 51 = .ok (.getfield 194, 3) := by decide +kernel
theorem d_M_count_54 : decode b_M_count 54 = .ok (.ireturn, 1) := by decide +kernel
theorem d_M_count_55 : decode b_M_count 55 = .ok (.aload_n 0, 1) := by decide +kernel
theorem d_M_count_56 : decode b_M_count 56 = .ok (.getfield 174, 3) := by decide +kernel
theorem d_M_count_59 : decode b_M_count 59 = .ok (.ireturn, 1) := by decide +kernel
theorem d_M_count_60 : decode b_M_count 60 = .ok (.aload_n 0, 1) := by decide +kernel
theorem d_M_count_61 : decode b_M_count 61 = .ok (.getfield 382, 3) := by decide +kernel
theorem d_M_count_64 : decode b_M_count 64 = .ok (.ireturn, 1) := by decide +kernel
theorem d_M_count_65 : decode b_M_count 65 = .ok (.aload_n 0, 1) := by decide +kernel
theorem d_M_count_66 : decode b_M_count 66 = .ok (.getfield 385, 3) := by decide +kernel
theorem d_M_count_69 : decode b_M_count 69 = .ok (.ireturn, 1) := by decide +kernel
theorem d_M_count_70 : decode b_M_count 70 = .ok (.iconst (-1), 1) := by decide +kernel
theorem d_M_count_71 : decode b_M_count 71 = .ok (.ireturn, 1) := by decide +kernel
theorem d_M_dayOf_0 : decode b_M_dayOf 0 = .ok (.iload_n 2, 1) := by decide +kernel
theorem d_M_dayOf_1 : decode b_M_dayOf 1 = .ok (.aload_n 0, 1) := by decide +kernel
theorem d_M_dayOf_2 : decode b_M_dayOf 2 = .ok (.getfield 137, 3) := by decide +kernel
theorem d_M_dayOf_5 : decode b_M_dayOf 5 = .ok (.iload_n 1, 1) := by decide +kernel
theorem d_M_dayOf_6 : decode b_M_dayOf 6 = .ok (.iaload, 1) := by decide +kernel
theorem d_M_dayOf_7 : decode b_M_dayOf 7 = .ok (.if_icmp .ge 18, 3) := by decide +kernel
theorem d_M_dayOf_10 : decode b_M_dayOf 10 = .ok (.aload_n 0, 1) := by decide +kernel
theorem d_M_dayOf_11 : decode b_M_dayOf 11 = .ok (.iload_n 1, 1) := by decide +kernel
theorem d_M_dayOf_12 : decode b_M_dayOf 12 = .ok (.iload_n 2, 1) := by decide +kernel
theorem d_M_dayOf_13 : decode b_M_dayOf 13 = .ok (.invokevirtual 330, 3) := by decide +kernel
theorem d_M_dayOf_16 : decode b_M_dayOf 16 = .ok (.iconst 0, 1) := by decide +kernel
theorem d_M_dayOf_17 : decode b_M_dayOf 17 = .ok (.bipush 19, 2) := by decide +kernel
theorem d_M_dayOf_19 : decode b_M_dayOf 19 = .ok (.invokestatic 153, 3) := by decide +kernel
theorem d_M_dayOf_22 : decode b_M_dayOf 22 = .ok (.ifCond .ne 5, 3) := by decide +kernel
theorem d_M_dayOf_25 : decode b_M_dayOf 25 = .ok (.iconst (-1), 1) := by decide +kernel
theorem d_M_dayOf_26 : decode b_M_dayOf 26 = .ok (.ireturn, 1) := by decide +kernel
theorem d_M_dayOf_27 : decode b_M_dayOf 27 = .ok (.aload_n 0, 1) := by decide +kernel
theorem d_M_dayOf_28 : decode b_M_dayOf 28 = .ok (.iload_n 1, 1) := by decide +kernel
theorem d_M_dayOf_29 : decode b_M_dayOf 29 = .ok (.iload_n 2, 1) := by decide +kernel
theorem d_M_dayOf_30 : decode b_M_dayOf 30 = .ok (.invokevirtual 330, 3) := by decide +kernel
theorem d_M_dayOf_33 : decode b_M_dayOf 33 = .ok (.istore 5, 2) := by decide +kernel
theorem d_M_dayOf_35 : decode b_M_dayOf 35 = .ok (.iload 5, 2) := by decide +kernel
theorem d_M_dayOf_37 : decode b_M_dayOf 37 = .ok (.iload_n 3, 1) := by decide +kernel
theorem d_M_dayOf_38 : decode b_M_dayOf 38 = .ok (.if_icmp .ne 10, 3) := by decide +kernel
theorem d_M_dayOf_41 : decode b_M_dayOf 41 = .ok (.iload 4, 2) := by decide +kernel
theorem d_M_dayOf_43 : decode b_M_dayOf 43 = .ok (.istore 5, 2) := by decide +kernel
theorem d_M_dayOf_45 : decode b_M_dayOf 45 = .ok (.goto 13, 3) := by decide +kernel
theorem d_M_dayOf_48 : decode b_M_dayOf 48 = .ok (.iload 5, 2) := by decide +kernel
theorem d_M_dayOf_50 : decode b_M_dayOf 50 = .ok (.iload 4, 2) := by decide +kernel
theorem d_M_dayOf_52 : decode b_M_dayOf 52 = .ok (.if_icmp .ne 6, 3) := by decide +kernel
theorem d_M_dayOf_55 : decode b_M_dayOf 55 = .ok (.iload_n 3, 1) := by decide +kernel
theorem d_M_dayOf_56 : decode b_M_dayOf 56 = .ok (.istore 5, 2) := by decide +kernel
theorem d_M_dayOf_58 : decode b_M_dayOf 58 = .ok (.iload 5, 2) := by decide +kernel
theorem d_M_dayOf_60 : decode b_M_dayOf 60 = .ok (.aload_n 0, 1) := by decide +kernel
theorem d_M_dayOf_61 : decode b_M_dayOf 61 = .ok (.getfield 41, 3) := by decide +kernel
theorem d_M_dayOf_64 : decode b_M_dayOf 64 = .ok (.idiv, 1) := by decide +kernel
theorem d_M_dayOf_65 : decode b_M_dayOf 65 = .ok (.ireturn, 1) := by decide +kernel
theorem d_M_daysLate_0 : decode b_M_daysLate 0 = .ok (.iconst 0, 1) := by decide +kernel
theorem d_M_daysLate_1 : decode b_M_daysLate 1 = .ok (.istore 4, 2) := by decide +kernel
theorem d_M_daysLate_3 : decode b_M_daysLate 3 = .ok (.iconst 0, 1) := by decide +kernel
theorem d_M_daysLate_4 : decode b_M_daysLate 4 = .ok (.istore 5, 2) := by decide +kernel
theorem d_M_daysLate_6 : decode b_M_daysLate 6 = .ok (.iload 5, 2) := by decide +kernel
theorem d_M_daysLate_8 : decode b_M_daysLate 8 = .ok (.aload_n 0, 1) := by decide +kernel
theorem d_M_daysLate_9 : decode b_M_daysLate 9 = .ok (.getfield 150, 3) := by decide +kernel
theorem d_M_daysLate_12 : decode b_M_daysLate 12 = .ok (.if_icmp .ge 47, 3) := by decide +kernel
theorem d_M_daysLate_15 : decode b_M_daysLate 15 = .ok (.aload_n 0, 1) := by decide +kernel
theorem d_M_daysLate_16 : decode b_M_daysLate 16 = .ok (.iload_n 1, 1) := by decide +kernel
theorem d_M_daysLate_17 : decode b_M_daysLate 17 = .ok (.iload 5, 2) := by decide +kernel
theorem d_M_daysLate_19 : decode b_M_daysLate 19 = .ok (.iload_n 2, 1) := by decide +kernel
theorem d_M_daysLate_20 : decode b_M_daysLate 20 = .ok (.iload_n 3, 1) := by decide +kernel
theorem d_M_daysLate_21 : decode b_M_daysLate 21 = .ok (.invokevirtual 333, 3) := by decide +kernel
theorem d_M_daysLate_24 : decode b_M_daysLate 24 = .ok (.istore 6, 2) := by decide +kernel
theorem d_M_daysLate_26 : decode b_M_daysLate 26 = .ok (.iload 6, 2) := by decide +kernel
theorem d_M_daysLate_28 : decode b_M_daysLate 28 = .ok (.aload_n 0, 1) := by decide +kernel
theorem d_M_daysLate_29 : decode b_M_daysLate 29 = .ok (.getfield 31, 3) := by decide +kernel
theorem d_M_daysLate_32 : decode b_M_daysLate 32 = .ok (.iload 5, 2) := by decide +kernel
theorem d_M_daysLate_34 : decode b_M_daysLate 34 = .ok (.iaload, 1) := by decide +kernel
theorem d_M_daysLate_35 : decode b_M_daysLate 35 = .ok (.if_icmp .le 18, 3) := by decide +kernel
theorem d_M_daysLate_38 : decode b_M_daysLate 38 = .ok (.iload 4, 2) := by decide +kernel
theorem d_M_daysLate_40 : decode b_M_daysLate 40 = .ok (.iload 6, 2) := by decide +kernel
theorem d_M_daysLate_42 : decode b_M_daysLate 42 = .ok (.aload_n 0, 1) := by decide +kernel
theorem d_M_daysLate_43 : decode b_M_daysLate 43 = .ok (.getfield 31, 3) := by decide +kernel
theorem d_M_daysLate_46 : decode b_M_daysLate 46 = .ok (.iload 5, 2) := by decide +kernel
theorem d_M_daysLate_48 : decode b_M_daysLate 48 = .ok (.iaload, 1) := by decide +kernel
theorem d_M_daysLate_49 : decode b_M_daysLate 49 = .ok (.isub, 1) := by decide +kernel
theorem d_M_daysLate_50 : decode b_M_daysLate 50 = .ok (.iadd, 1) := by decide +kernel
theorem d_M_daysLate_51 : decode b_M_daysLate 51 = .ok (.istore 4, 2) := by decide +kernel
theorem d_M_daysLate_53 : decode b_M_daysLate 53 = .ok (.iinc 5 1, 3) := by decide +kernel
theorem d_M_daysLate_56 : decode b_M_daysLate 56 = .ok (.goto (-50), 3) := by decide +kernel
theorem d_M_daysLate_59 : decode b_M_daysLate 59 = .ok (.iload 4, 2) := by decide +kernel
theorem d_M_daysLate_61 : decode b_M_daysLate 61 = .ok (.ireturn, 1) := by decide +kernel
theorem d_M_drawn_0 : decode b_M_drawn 0 = .ok (.iload_n 2, 1) := by decide +kernel
theorem d_M_drawn_1 : decode b_M_drawn 1 = .ok (.ifCond .lt 35, 3) := by decide +kernel
theorem d_M_drawn_4 : decode b_M_drawn 4 = .ok (.iload_n 2, 1) := by decide +kernel
theorem d_M_drawn_5 : decode b_M_drawn 5 = .ok (.bipush 10, 2) := by decide +kernel
theorem d_M_drawn_7 : decode b_M_drawn 7 = .ok (.idiv, 1) := by decide +kernel
theorem d_M_drawn_8 : decode b_M_drawn 8 = .ok (.iconst 1, 1) := by decide +kernel
theorem d_M_drawn_9 : decode b_M_drawn 9 = .ok (.bipush 30, 2) := by decide +kernel
theorem d_M_drawn_11 : decode b_M_drawn 11 = .ok (.invokestatic 153, 3) := by decide +kernel
theorem d_M_drawn_14 : decode b_M_drawn 14 = .ok (.ifCond .eq 22, 3) := by decide +kernel
theorem d_M_drawn_17 : decode b_M_drawn 17 = .ok (.iload_n 2, 1) := by decide +kernel
theorem d_M_drawn_18 : decode b_M_drawn 18 = .ok (.bipush 10, 2) := by decide +kernel
theorem d_M_drawn_20 : decode b_M_drawn 20 = .ok (.irem, 1) := by decide +kernel
theorem d_M_drawn_21 : decode b_M_drawn 21 = .ok (.invokestatic 271, 3) := by decide +kernel
theorem d_M_drawn_24 : decode b_M_drawn 24 = .ok (.ifCond .eq 12, 3) := by decide +kernel
theorem d_M_drawn_27 : decode b_M_drawn 27 = .ok (.iload_n 3, 1) := by decide +kernel
theorem d_M_drawn_28 : decode b_M_drawn 28 = .ok (.iconst 0, 1) := by decide +kernel
theorem d_M_drawn_29 : decode b_M_drawn 29 = .ok (.iconst 1, 1) := by decide +kernel
theorem d_M_drawn_30 : decode b_M_drawn 30 = .ok (.invokestatic 153, 3) := by decide +kernel
theorem d_M_drawn_33 : decode b_M_drawn 33 = .ok (.ifCond .ne 5, 3) := by decide +kernel
theorem d_M_drawn_36 : decode b_M_drawn 36 = .ok (.iconst (-1), 1) := by decide +kernel
theorem d_M_drawn_37 : decode b_M_drawn 37 = .ok (.ireturn, 1) := by decide +kernel
theorem d_M_drawn_38 : decode b_M_drawn 38 = .ok (.iload_n 1, 1) := by decide +kernel
theorem d_M_drawn_39 : decode b_M_drawn 39 = .ok (.istore 4, 2) := by decide +kernel
theorem d_M_drawn_41 : decode b_M_drawn 41 = .ok (.iconst 0, 1) := by decide +kernel
theorem d_M_drawn_42 : decode b_M_drawn 42 = .ok (.istore 5, 2) := by decide +kernel
theorem d_M_drawn_44 : decode b_M_drawn 44 = .ok (.iconst 0, 1) := by decide +kernel
theorem d_M_drawn_45 : decode b_M_drawn 45 = .ok (.istore 6, 2) := by decide +kernel
theorem d_M_drawn_47 : decode b_M_drawn 47 = .ok (.iconst 0, 1) := by decide +kernel
theorem d_M_drawn_48 : decode b_M_drawn 48 = .ok (.istore 7, 2) := by decide +kernel
theorem d_M_drawn_50 : decode b_M_drawn 50 = .ok (.iload 7, 2) := by decide +kernel
theorem d_M_drawn_52 : decode b_M_drawn 52 = .ok (.iload_n 2, 1) := by decide +kernel
theorem d_M_drawn_53 : decode b_M_drawn 53 = .ok (.bipush 10, 2) := by decide +kernel
theorem d_M_drawn_55 : decode b_M_drawn 55 = .ok (.idiv, 1) := by decide +kernel
theorem d_M_drawn_56 : decode b_M_drawn 56 = .ok (.if_icmp .ge 110, 3) := by decide +kernel
theorem d_M_drawn_59 : decode b_M_drawn 59 = .ok (.iconst 0, 1) := by decide +kernel
theorem d_M_drawn_60 : decode b_M_drawn 60 = .ok (.istore 8, 2) := by decide +kernel
theorem d_M_drawn_62 : decode b_M_drawn 62 = .ok (.iconst 0, 1) := by decide +kernel
theorem d_M_drawn_63 : decode b_M_drawn 63 = .ok (.istore 9, 2) := by decide +kernel
theorem d_M_drawn_65 : decode b_M_drawn 65 = .ok (.iload 9, 2) := by decide +kernel
theorem d_M_drawn_67 : decode b_M_drawn 67 = .ok (.aload_n 0, 1) := by decide +kernel
theorem d_M_drawn_68 : decode b_M_drawn 68 = .ok (.getfield 150, 3) := by decide +kernel
theorem d_M_drawn_71 : decode b_M_drawn 71 = .ok (.if_icmp .ge 57, 3) := by decide +kernel
theorem d_M_drawn_74 : decode b_M_drawn 74 = .ok (.iload 4, 2) := by decide +kernel
theorem d_M_drawn_76 : decode b_M_drawn 76 = .ok (.ldc_w 372, 3) := by decide +kernel
theorem d_M_drawn_79 : decode b_M_drawn 79 = .ok (.imul, 1) := by decide +kernel
theorem d_M_drawn_80 : decode b_M_drawn 80 = .ok (.sipush 12345, 3) := by decide +kernel
theorem d_M_drawn_83 : decode b_M_drawn 83 = .ok (.iadd, 1) := by decide +kernel
theorem d_M_drawn_84 : decode b_M_drawn 84 = .ok (.istore 4, 2) := by decide +kernel
theorem d_M_drawn_86 : decode b_M_drawn 86 = .ok (.iload 4, 2) := by decide +kernel
theorem d_M_drawn_88 : decode b_M_drawn 88 = .ok (.bipush 8, 2) := by decide +kernel
theorem d_M_drawn_90 : decode b_M_drawn 90 = .ok (.iushr, 1) := by decide +kernel
theorem d_M_drawn_91 : decode b_M_drawn 91 = .ok (.bipush 12, 2) := by decide +kernel
theorem d_M_drawn_93 : decode b_M_drawn 93 = .ok (.irem, 1) := by decide +kernel
theorem d_M_drawn_94 : decode b_M_drawn 94 = .ok (.bipush 6, 2) := by decide +kernel
theorem d_M_drawn_96 : decode b_M_drawn 96 = .ok (.if_icmp .ge 26, 3) := by decide +kernel
theorem d_M_drawn_99 : decode b_M_drawn 99 = .ok (.aload_n 0, 1) := by decide +kernel
theorem d_M_drawn_100 : decode b_M_drawn 100 = .ok (.iload 8, 2) := by decide +kernel
theorem d_M_drawn_102 : decode b_M_drawn 102 = .ok (.iconst 1, 1) := by decide +kernel
theorem d_M_drawn_103 : decode b_M_drawn 103 = .ok (.iload 9, 2) := by decide +kernel
theorem d_M_drawn_105 : decode b_M_drawn 105 = .ok (.ishl, 1) := by decide +kernel
theorem d_M_drawn_106 : decode b_M_drawn 106 = .ok (.ior, 1) := by decide +kernel
theorem d_M_drawn_107 : decode b_M_drawn 107 = .ok (.invokevirtual 283, 3) := by decide +kernel
theorem d_M_drawn_110 : decode b_M_drawn 110 = .ok (.ifCond .eq 12, 3) := by decide +kernel
theorem d_M_drawn_113 : decode b_M_drawn 113 = .ok (.iload 8, 2) := by decide +kernel
theorem d_M_drawn_115 : decode b_M_drawn 115 = .ok (.iconst 1, 1) := by decide +kernel
theorem d_M_drawn_116 : decode b_M_drawn 116 = .ok (.iload 9, 2) := by decide +kernel
theorem d_M_drawn_118 : decode b_M_drawn 118 = .ok (.ishl, 1) := by decide +kernel
theorem d_M_drawn_119 : decode b_M_drawn 119 = .ok (.ior, 1) := by decide +kernel
theorem d_M_drawn_120 : decode b_M_drawn 120 = .ok (.istore 8, 2) := by decide +kernel
theorem d_M_drawn_122 : decode b_M_drawn 122 = .ok (.iinc 9 1, 3) := by decide +kernel
theorem d_M_drawn_125 : decode b_M_drawn 125 = .ok (.goto (-60), 3) := by decide +kernel
theorem d_M_drawn_128 : decode b_M_drawn 128 = .ok (.iload 5, 2) := by decide +kernel
theorem d_M_drawn_130 : decode b_M_drawn 130 = .ok (.aload_n 0, 1) := by decide +kernel
theorem d_M_drawn_131 : decode b_M_drawn 131 = .ok (.iload 8, 2) := by decide +kernel
theorem d_M_drawn_133 : decode b_M_drawn 133 = .ok (.iload_n 2, 1) := by decide +kernel
theorem d_M_drawn_134 : decode b_M_drawn 134 = .ok (.bipush 10, 2) := by decide +kernel
theorem d_M_drawn_136 : decode b_M_drawn 136 = .ok (.irem, 1) := by decide +kernel
theorem d_M_drawn_137 : decode b_M_drawn 137 = .ok (.iconst 0, 1) := by decide +kernel
theorem d_M_drawn_138 : decode b_M_drawn 138 = .ok (.invokevirtual 298, 3) := by decide +kernel
theorem d_M_drawn_141 : decode b_M_drawn 141 = .ok (.iadd, 1) := by decide +kernel
theorem d_M_drawn_142 : decode b_M_drawn 142 = .ok (.istore 5, 2) := by decide +kernel
theorem d_M_drawn_144 : decode b_M_drawn 144 = .ok (.aload_n 0, 1) := by decide +kernel
theorem d_M_drawn_145 : decode b_M_drawn 145 = .ok (.iload 8, 2) := by decide +kernel
theorem d_M_drawn_147 : decode b_M_drawn 147 = .ok (.iload_n 2, 1) := by decide +kernel
theorem d_M_drawn_148 : decode b_M_drawn 148 = .ok (.bipush 10, 2) := by decide +kernel
theorem d_M_drawn_150 : decode b_M_drawn 150 = .ok (.irem, 1) := by decide +kernel
theorem d_M_drawn_151 : decode b_M_drawn 151 = .ok (.invokevirtual 286, 3) := by decide +kernel
theorem d_M_drawn_154 : decode b_M_drawn 154 = .ok (.ifCond .eq 6, 3) := by decide +kernel
theorem d_M_drawn_157 : decode b_M_drawn 157 = .ok (.iinc 6 1, 3) := by decide +kernel
theorem d_M_drawn_160 : decode b_M_drawn 160 = .ok (.iinc 7 1, 3) := by decide +kernel
theorem d_M_drawn_163 : decode b_M_drawn 163 = .ok (.goto (-113), 3) := by decide +kernel
theorem d_M_drawn_166 : decode b_M_drawn 166 = .ok (.iload_n 3, 1) := by decide +kernel
theorem d_M_drawn_167 : decode b_M_drawn 167 = .ok (.ifCond .ne 8, 3) := by decide +kernel
theorem d_M_drawn_170 : decode b_M_drawn 170 = .ok (.iload 5, 2) := by decide +kernel
theorem d_M_drawn_172 : decode b_M_drawn 172 = .ok (.goto 5, 3) := by decide +kernel
theorem d_M_drawn_175 : decode b_M_drawn 175 = .ok (.iload 6, 2) := by decide +kernel
theorem d_M_drawn_177 : decode b_M_drawn 177 = .ok (.ireturn, 1) := by decide +kernel
theorem d_M_isShelf_0 : decode b_M_isShelf 0 = .ok (.iload_n 0, 1) := by decide +kernel
theorem d_M_isShelf_1 : decode b_M_isShelf 1 = .ok (.iconst 0, 1) := by decide +kernel
theorem d_M_isShelf_2 : decode b_M_isShelf 2 = .ok (.iconst 5, 1) := by decide +kernel
theorem d_M_isShelf_3 : decode b_M_isShelf 3 = .ok (.invokestatic 153, 3) := by decide +kernel
theorem d_M_isShelf_6 : decode b_M_isShelf 6 = .ok (.ireturn, 1) := by decide +kernel
theorem d_M_whyNoPlace_0 : decode b_M_whyNoPlace 0 = .ok (.iload_n 1, 1) := by decide +kernel
theorem d_M_whyNoPlace_1 : decode b_M_whyNoPlace 1 = .ok (.invokestatic 161, 3) := by decide +kernel
theorem d_M_whyNoPlace_4 : decode b_M_whyNoPlace 4 = .ok (.ifCond .ne 5, 3) := by decide +kernel
theorem d_M_whyNoPlace_7 : decode b_M_whyNoPlace 7 = .ok (.iconst (-1), 1) := by decide +kernel
theorem d_M_whyNoPlace_8 : decode b_M_whyNoPlace 8 = .ok (.ireturn, 1) := by decide +kernel
theorem d_M_whyNoPlace_9 : decode b_M_whyNoPlace 9 = .ok (.aload_n 0, 1) := by decide +kernel
theorem d_M_whyNoPlace_10 : decode b_M_whyNoPlace 10 = .ok (.getfield 134, 3) := by decide +kernel
theorem d_M_whyNoPlace_13 : decode b_M_whyNoPlace 13 = .ok (.iload_n 1, 1) := by decide +kernel
theorem d_M_whyNoPlace_14 : decode b_M_whyNoPlace 14 = .ok (.iaload, 1) := by decide +kernel
theorem d_M_whyNoPlace_15 : decode b_M_whyNoPlace 15 = .ok (.iconst (-1), 1) := by decide +kernel
theorem d_M_whyNoPlace_16 : decode b_M_whyNoPlace 16 = .ok (.if_icmp .ne 6, 3) := by decide +kernel
theorem d_M_whyNoPlace_19 : decode b_M_whyNoPlace 19 = .ok (.bipush (-11), 2) := by decide +kernel
theorem d_M_whyNoPlace_21 : decode b_M_whyNoPlace 21 = .ok (.ireturn, 1) := by decide +kernel
theorem d_M_whyNoPlace_22 : decode b_M_whyNoPlace 22 = .ok (.aload_n 0, 1) := by decide +kernel
theorem d_M_whyNoPlace_23 : decode b_M_whyNoPlace 23 = .ok (.getfield 134, 3) := by decide +kernel
theorem d_M_whyNoPlace_26 : decode b_M_whyNoPlace 26 = .ok (.iload_n 1, 1) := by decide +kernel
theorem d_M_whyNoPlace_27 : decode b_M_whyNoPlace 27 = .ok (.iaload, 1) := by decide +kernel
theorem d_M_whyNoPlace_28 : decode b_M_whyNoPlace 28 = .ok (.ifCond .lt 6, 3) := by decide +kernel
theorem d_M_whyNoPlace_31 : decode b_M_whyNoPlace 31 = .ok (.bipush (-12), 2) := by decide +kernel
theorem d_M_whyNoPlace_33 : decode b_M_whyNoPlace 33 = .ok (.ireturn, 1) := by decide +kernel
theorem d_M_whyNoPlace_34 : decode b_M_whyNoPlace 34 = .ok (.iload_n 2, 1) := by decide +kernel
theorem d_M_whyNoPlace_35 : decode b_M_whyNoPlace 35 = .ok (.iconst 0, 1) := by decide +kernel
theorem d_M_whyNoPlace_36 : decode b_M_whyNoPlace 36 = .ok (.aload_n 0, 1) := by decide +kernel
theorem d_M_whyNoPlace_37 : decode b_M_whyNoPlace 37 = .ok (.getfield 137, 3) := by decide +kernel
theorem d_M_whyNoPlace_40 : decode b_M_whyNoPlace 40 = .ok (.iload_n 1, 1) := by decide +kernel
theorem d_M_whyNoPlace_41 : decode b_M_whyNoPlace 41 = .ok (.iaload, 1) := by decide +kernel
theorem d_M_whyNoPlace_42 : decode b_M_whyNoPlace 42 = .ok (.iconst 1, 1) := by decide +kernel
theorem d_M_whyNoPlace_43 : decode b_M_whyNoPlace 43 = .ok (.isub, 1) := by decide +kernel
theorem d_M_whyNoPlace_44 : decode b_M_whyNoPlace 44 = .ok (.invokestatic 153, 3) := by decide +kernel
theorem d_M_whyNoPlace_47 : decode b_M_whyNoPlace 47 = .ok (.ifCond .eq 7, 3) := by decide +kernel
theorem d_M_whyNoPlace_50 : decode b_M_whyNoPlace 50 = .ok (.iconst 0, 1) := by decide +kernel
theorem d_M_whyNoPlace_51 : decode b_M_whyNoPlace 51 = .ok (.goto 5, 3) := by decide +kernel
theorem d_M_whyNoPlace_54 : decode b_M_whyNoPlace 54 = .ok (.bipush (-13), 2) := by decide +kernel
theorem d_M_whyNoPlace_56 : decode b_M_whyNoPlace 56 = .ok (.ireturn, 1) := by decide +kernel
theorem d_M_element_0 : decode b_M_element 0 = .ok (.aload_n 0, 1) := by decide +kernel
theorem d_M_element_1 : decode b_M_element 1 = .ok (.iload_n 1, 1) := by decide +kernel
theorem d_M_element_2 : decode b_M_element 2 = .ok (.iload_n 2, 1) := by decide +kernel
theorem d_M_element_3 : decode b_M_element 3 = .ok (.invokevirtual 430, 3) := by decide +kernel
theorem d_M_element_6 : decode b_M_element 6 = .ok (.ifCond .ge 9, 3) := by decide +kernel
theorem d_M_element_9 : decode b_M_element 9 = .ok (.ldc2_w 435, 3) := by decide +kernel
theorem d_M_element_12 : decode b_M_element 12 = .ok (.goto 14, 3) := by decide +kernel
theorem d_M_element_15 : decode b_M_element 15 = .ok (.aload_n 0, 1) := by decide +kernel
theorem d_M_element_16 : decode b_M_element 16 = .ok (.getfield 140, 3) := by decide +kernel
theorem d_M_element_19 : decode b_M_element 19 = .ok (.bipush 60, 2) := by decide +kernel
theorem d_M_element_21 : decode b_M_element 21 = .ok (.iload_n 1, 1) := by decide +kernel
theorem d_M_element_22 : decode b_M_element 22 = .ok (.imul, 1) := by decide +kernel
theorem d_M_element_23 : decode b_M_element 23 = .ok (.iload_n 2, 1) := by decide +kernel
theorem d_M_element_24 : decode b_M_element 24 = .ok (.iadd, 1) := by decide +kernel
theorem d_M_element_25 : decode b_M_element 25 = .ok (.laload, 1) := by decide +kernel
theorem d_M_element_26 : decode b_M_element 26 = .ok (.lreturn, 1) := by decide +kernel
theorem d_M_feed_0 : decode b_M_feed 0 = .ok (.iload_n 1, 1) := by decide +kernel
theorem d_M_feed_1 : decode b_M_feed 1 = .ok (.iconst 0, 1) := by decide +kernel
theorem d_M_feed_2 : decode b_M_feed 2 = .ok (.sipush 255, 3) := by decide +kernel
theorem d_M_feed_5 : decode b_M_feed 5 = .ok (.invokestatic 153, 3) := by decide +kernel
theorem d_M_feed_8 : decode b_M_feed 8 = .ok (.ifCond .ne 5, 3) := by decide +kernel
theorem d_M_feed_11 : decode b_M_feed 11 = .ok (.iconst (-1), 1) := by decide +kernel
theorem d_M_feed_12 : decode b_M_feed 12 = .ok (.ireturn, 1) := by decide +kernel
theorem d_M_feed_13 : decode b_M_feed 13 = .ok (.aload_n 0, 1) := by decide +kernel
theorem d_M_feed_14 : decode b_M_feed 14 = .ok (.getfield 194, 3) := by decide +kernel
theorem d_M_feed_17 : decode b_M_feed 17 = .ok (.bipush 120, 2) := by decide +kernel
theorem d_M_feed_19 : decode b_M_feed 19 = .ok (.if_icmp .ne 6, 3) := by decide +kernel
theorem d_M_feed_22 : decode b_M_feed 22 = .ok (.bipush (-3), 2) := by decide +kernel
theorem d_M_feed_24 : decode b_M_feed 24 = .ok (.ireturn, 1) := by decide +kernel
theorem d_M_feed_25 : decode b_M_feed 25 = .ok (.aload_n 0, 1) := by decide +kernel
theorem d_M_feed_26 : decode b_M_feed 26 = .ok (.getfield 59, 3) := by decide +kernel
theorem d_M_feed_29 : decode b_M_feed 29 = .ok (.aload_n 0, 1) := by decide +kernel
theorem d_M_feed_30 : decode b_M_feed 30 = .ok (.getfield 194, 3) := by decide +kernel
theorem d_M_feed_33 : decode b_M_feed 33 = .ok (.iload_n 1, 1) := by decide +kernel
theorem d_M_feed_34 : decode b_M_feed 34 = .ok (.i2b, 1) := by decide +kernel
theorem d_M_feed_35 : decode b_M_feed 35 = .ok (.bastore, 1) := by decide +kernel
theorem d_M_feed_36 : decode b_M_feed 36 = .ok (.aload_n 0, 1) := by decide +kernel
theorem d_M_feed_37 : decode b_M_feed 37 = .ok (.dup, 1) := by decide +kernel
theorem d_M_feed_38 : decode b_M_feed 38 = .ok (.getfield 194, 3) := by decide +kernel
theorem d_M_feed_41 : decode b_M_feed 41 = .ok (.iconst 1, 1) := by decide +kernel
theorem d_M_feed_42 : decode b_M_feed 42 = .ok (.iadd, 1) := by decide +kernel
theorem d_M_feed_43 : decode b_M_feed 43 = .ok (.putfield 194, 3) := by decide +kernel
theorem d_M_feed_46 : decode b_M_feed 46 = .ok (.aload_n 0, 1) := by decide +kernel
theorem d_M_feed_47 : decode b_M_feed 47 = .ok (.getfield 194, 3) := by decide +kernel
theorem d_M_feed_50 : decode b_M_feed 50 = .ok (.ireturn, 1) := by decide +kernel
theorem d_M_gives_0 : decode b_M_gives 0 = .ok (.aload_n 0, 1) := by decide +kernel
theorem d_M_gives_1 : decode b_M_gives 1 = .ok (.iload_n 1, 1) := by decide +kernel
theorem d_M_gives_2 : decode b_M_gives 2 = .ok (.invokevirtual 181, 3) := by decide +kernel
theorem d_M_gives_5 : decode b_M_gives 5 = .ok (.ifCond .eq 19, 3) := by decide +kernel
theorem d_M_gives_8 : decode b_M_gives 8 = .ok (.iload_n 2, 1) := by decide +kernel
theorem d_M_gives_9 : decode b_M_gives 9 = .ok (.invokestatic 271, 3) := by decide +kernel
theorem d_M_gives_12 : decode b_M_gives 12 = .ok (.ifCond .eq 12, 3) := by decide +kernel
theorem d_M_gives_15 : decode b_M_gives 15 = .ok (.aload_n 0, 1) := by decide +kernel
theorem d_M_gives_16 : decode b_M_gives 16 = .ok (.iload_n 1, 1) := by decide +kernel
theorem d_M_gives_17 : decode b_M_gives 17 = .ok (.iload_n 2, 1) := by decide +kernel
theorem d_M_gives_18 : decode b_M_gives 18 = .ok (.invokevirtual 274, 3) := by decide +kernel
theorem d_M_gives_21 : decode b_M_gives 21 = .ok (.goto 4, 3) := by decide +kernel
theorem d_M_gives_24 : decode b_M_gives 24 = .ok (.iconst (-1), 1) := by decide +kernel
theorem d_M_gives_25 : decode b_M_gives 25 = .ok (.ireturn, 1) := by decide +kernel
theorem d_M_hangingAt_0 : decode b_M_hangingAt 0 = .ok (.iconst 0, 1) := by decide +kernel
theorem d_M_hangingAt_1 : decode b_M_hangingAt 1 = .ok (.istore_n 3, 1) := by decide +kernel
theorem d_M_hangingAt_2 : decode b_M_hangingAt 2 = .ok (.iconst 0, 1) := by decide +kernel
theorem d_M_hangingAt_3 : decode b_M_hangingAt 3 = .ok (.istore 4, 2) := by decide +kernel
theorem d_M_hangingAt_5 : decode b_M_hangingAt 5 = .ok (.iload 4, 2) := by decide +kernel
theorem d_M_hangingAt_7 : decode b_M_hangingAt 7 = .ok (.iload_n 1, 1) := by decide +kernel
theorem d_M_hangingAt_8 : decode b_M_hangingAt 8 = .ok (.if_icmp .ge 40, 3) := by decide +kernel
theorem d_M_hangingAt_11 : decode b_M_hangingAt 11 = .ok (.aload_n 0, 1) := by decide +kernel
theorem d_M_hangingAt_12 : decode b_M_hangingAt 12 = .ok (.getfield 97, 3) := by decide +kernel
theorem d_M_hangingAt_15 : decode b_M_hangingAt 15 = .ok (.aload_n 0, 1) := by decide +kernel
theorem d_M_hangingAt_16 : decode b_M_hangingAt 16 = .ok (.getfield 100, 3) := by decide +kernel
theorem d_M_hangingAt_19 : decode b_M_hangingAt 19 = .ok (.iload 4, 2) := by decide +kernel
theorem d_M_hangingAt_21 : decode b_M_hangingAt 21 = .ok (.iaload, 1) := by decide +kernel
theorem d_M_hangingAt_22 : decode b_M_hangingAt 22 = .ok (.iaload, 1) := by decide +kernel
theorem d_M_hangingAt_23 : decode b_M_hangingAt 23 = .ok (.iload_n 2, 1) := by decide +kernel
theorem d_M_hangingAt_24 : decode b_M_hangingAt 24 = .ok (.if_icmp .le 18, 3) := by decide +kernel
theorem d_M_hangingAt_27 : decode b_M_hangingAt 27 = .ok (.iload_n 3, 1) := by decide +kernel
theorem d_M_hangingAt_28 : decode b_M_hangingAt 28 = .ok (.aload_n 0, 1) := by decide +kernel
theorem d_M_hangingAt_29 : decode b_M_hangingAt 29 = .ok (.getfield 22, 3) := by decide +kernel
theorem d_M_hangingAt_32 : decode b_M_hangingAt 32 = .ok (.aload_n 0, 1) := by decide +kernel
theorem d_M_hangingAt_33 : decode b_M_hangingAt 33 = .ok (.getfield 100, 3) := by decide +kernel
theorem d_M_hangingAt_36 : decode b_M_hangingAt 36 = .ok (.iload 4, 2) := by decide +kernel
theorem d_M_hangingAt_38 : decode b_M_hangingAt 38 = .ok (.iaload, 1) := by decide +kernel
theorem d_M_hangingAt_39 : decode b_M_hangingAt 39 = .ok (.iaload, 1) := by decide +kernel
theorem d_M_hangingAt_40 : decode b_M_hangingAt 40 = .ok (.iadd, 1) := by decide +kernel
theorem d_M_hangingAt_41 : decode b_M_hangingAt 41 = .ok (.istore_n 3, 1) := by decide +kernel
theorem d_M_hangingAt_42 : decode b_M_hangingAt 42 = .ok (.iinc 4 1, 3) := by decide +kernel
theorem d_M_hangingAt_45 : decode b_M_hangingAt 45 = .ok (.goto (-40), 3) := by decide +kernel
theorem d_M_hangingAt_48 : decode b_M_hangingAt 48 = .ok (.iload_n 3, 1) := by decide +kernel
theorem d_M_hangingAt_49 : decode b_M_hangingAt 49 = .ok (.ireturn, 1) := by decide +kernel
theorem d_M_nextDry_0 : decode b_M_nextDry 0 = .ok (.iconst (-1), 1) := by decide +kernel
theorem d_M_nextDry_1 : decode b_M_nextDry 1 = .ok (.istore_n 3, 1) := by decide +kernel
theorem d_M_nextDry_2 : decode b_M_nextDry 2 = .ok (.iconst 0, 1) := by decide +kernel
theorem d_M_nextDry_3 : decode b_M_nextDry 3 = .ok (.istore 4, 2) := by decide +kernel
theorem d_M_nextDry_5 : decode b_M_nextDry 5 = .ok (.iload 4, 2) := by decide +kernel
theorem d_M_nextDry_7 : decode b_M_nextDry 7 = .ok (.iload_n 1, 1) := by decide +kernel
theorem d_M_nextDry_8 : decode b_M_nextDry 8 = .ok (.if_icmp .ge 58, 3) := by decide +kernel
theorem d_M_nextDry_11 : decode b_M_nextDry 11 = .ok (.aload_n 0, 1) := by decide +kernel
theorem d_M_nextDry_12 : decode b_M_nextDry 12 = .ok (.getfield 97, 3) := by decide +kernel
theorem d_M_nextDry_15 : decode b_M_nextDry 15 = .ok (.aload_n 0, 1) := by decide +kernel
theorem d_M_nextDry_16 : decode b_M_nextDry 16 = .ok (.getfield 100, 3) := by decide +kernel
theorem d_M_nextDry_19 : decode b_M_nextDry 19 = .ok (.iload 4, 2) := by decide +kernel
theorem d_M_nextDry_21 : decode b_M_nextDry 21 = .ok (.iaload, 1) := by decide +kernel
theorem d_M_nextDry_22 : decode b_M_nextDry 22 = .ok (.iaload, 1) := by decide +kernel
theorem d_M_nextDry_23 : decode b_M_nextDry 23 = .ok (.iload_n 2, 1) := by decide +kernel
theorem d_M_nextDry_24 : decode b_M_nextDry 24 = .ok (.if_icmp .le 36, 3) := by decide +kernel
theorem d_M_nextDry_27 : decode b_M_nextDry 27 = .ok (.iload_n 3, 1) := by decide +kernel
theorem d_M_nextDry_28 : decode b_M_nextDry 28 = .ok (.ifCond .lt 19, 3) := by decide +kernel
theorem d_M_nextDry_31 : decode b_M_nextDry 31 = .ok (.aload_n 0, 1) := by decide +kernel
theorem d_M_nextDry_32 : decode b_M_nextDry 32 = .ok (.getfield 97, 3) := by decide +kernel
theorem d_M_nextDry_35 : decode b_M_nextDry 35 = .ok (.aload_n 0, 1) := by decide +kernel
theorem d_M_nextDry_36 : decode b_M_nextDry 36 = .ok (.getfield 100, 3) := by decide +kernel
theorem d_M_nextDry_39 : decode b_M_nextDry 39 = .ok (.iload 4, 2) := by decide +kernel
theorem d_M_nextDry_41 : decode b_M_nextDry 41 = .ok (.iaload, 1) := by decide +kernel
theorem d_M_nextDry_42 : decode b_M_nextDry 42 = .ok (.iaload, 1) := by decide +kernel
theorem d_M_nextDry_43 : decode b_M_nextDry 43 = .ok (.iload_n 3, 1) := by decide +kernel
theorem d_M_nextDry_44 : decode b_M_nextDry 44 = .ok (.if_icmp .ge 16, 3) := by decide +kernel
theorem d_M_nextDry_47 : decode b_M_nextDry 47 = .ok (.aload_n 0, 1) := by decide +kernel
theorem d_M_nextDry_48 : decode b_M_nextDry 48 = .ok (.getfield 97, 3) := by decide +kernel
theorem d_M_nextDry_51 : decode b_M_nextDry 51 = .ok (.aload_n 0, 1) := by decide +kernel
theorem d_M_nextDry_52 : decode b_M_nextDry 52 = .ok (.getfield 100, 3) := by decide +kernel
theorem d_M_nextDry_55 : decode b_M_nextDry 55 = .ok (.iload 4, 2) := by decide +kernel
theorem d_M_nextDry_57 : decode b_M_nextDry 57 = .ok (.iaload, 1) := by decide +kernel
theorem d_M_nextDry_58 : decode b_M_nextDry 58 = .ok (.iaload, 1) := by decide +kernel
theorem d_M_nextDry_59 : decode b_M_nextDry 59 = .ok (.istore_n 3, 1) := by decide +kernel
theorem d_M_nextDry_60 : decode b_M_nextDry 60 = .ok (.iinc 4 1, 3) := by decide +kernel
theorem d_M_nextDry_63 : decode b_M_nextDry 63 = .ok (.goto (-58), 3) := by decide +kernel
theorem d_M_nextDry_66 : decode b_M_nextDry 66 = .ok (.iload_n 3, 1) := by decide +kernel
theorem d_M_nextDry_67 : decode b_M_nextDry 67 = .ok (.ireturn, 1) := by decide +kernel
theorem d_M_goLine_0 : decode b_M_goLine 0 = .ok (.iconst 0, 1) := by decide +kernel
theorem d_M_goLine_1 : decode b_M_goLine 1 = .ok (.istore_n 1, 1) := by decide +kernel
theorem d_M_goLine_2 : decode b_M_goLine 2 = .ok (.iconst 0, 1) := by decide +kernel
theorem d_M_goLine_3 : decode b_M_goLine 3 = .ok (.istore_n 2, 1) := by decide +kernel
theorem d_M_goLine_4 : decode b_M_goLine 4 = .ok (.iconst 0, 1) := by decide +kernel
theorem d_M_goLine_5 : decode b_M_goLine 5 = .ok (.istore_n 3, 1) := by decide +kernel
theorem d_M_goLine_6 : decode b_M_goLine 6 = .ok (.iload_n 3, 1) := by decide +kernel
theorem d_M_goLine_7 : decode b_M_goLine 7 = .ok (.aload_n 0, 1) := by decide +kernel
theorem d_M_goLine_8 : decode b_M_goLine 8 = .ok (.getfield 343, 3) := by decide +kernel
theorem d_M_goLine_11 : decode b_M_goLine 11 = .ok (.if_icmp .ge 122, 3) := by decide +kernel
theorem d_M_goLine_14 : decode b_M_goLine 14 = .ok (.aload_n 0, 1) := by decide +kernel
theorem d_M_goLine_15 : decode b_M_goLine 15 = .ok (.getfield 100, 3) := by decide +kernel
theorem d_M_goLine_18 : decode b_M_goLine 18 = .ok (.iload_n 3, 1) := by decide +kernel
theorem d_M_goLine_19 : decode b_M_goLine 19 = .ok (.iaload, 1) := by decide +kernel
theorem d_M_goLine_20 : decode b_M_goLine 20 = .ok (.istore 4, 2) := by decide +kernel
theorem d_M_goLine_22 : decode b_M_goLine 22 = .ok (.iload_n 2, 1) := by decide +kernel
theorem d_M_goLine_23 : decode b_M_goLine 23 = .ok (.ifCond .ne 17, 3) := by decide +kernel
theorem d_M_goLine_26 : decode b_M_goLine 26 = .ok (.aload_n 0, 1) := by decide +kernel
theorem d_M_goLine_27 : decode b_M_goLine 27 = .ok (.getfield 22, 3) := by decide +kernel
theorem d_M_goLine_30 : decode b_M_goLine 30 = .ok (.iload 4, 2) := by decide +kernel
theorem d_M_goLine_32 : decode b_M_goLine 32 = .ok (.iaload, 1) := by decide +kernel
theorem d_M_goLine_33 : decode b_M_goLine 33 = .ok (.aload_n 0, 1) := by decide +kernel
theorem d_M_goLine_34 : decode b_M_goLine 34 = .ok (.getfield 44, 3) := by decide +kernel
theorem d_M_goLine_37 : decode b_M_goLine 37 = .ok (.if_icmp .le 7, 3) := by decide +kernel
theorem d_M_goLine_40 : decode b_M_goLine 40 = .ok (.iconst 1, 1) := by decide +kernel
theorem d_M_goLine_41 : decode b_M_goLine 41 = .ok (.goto 4, 3) := by decide +kernel
theorem d_M_goLine_44 : decode b_M_goLine 44 = .ok (.iconst 0, 1) := by decide +kernel
theorem d_M_goLine_45 : decode b_M_goLine 45 = .ok (.istore_n 2, 1) := by decide +kernel
theorem d_M_goLine_46 : decode b_M_goLine 46 = .ok (.aload_n 0, 1) := by decide +kernel
theorem d_M_goLine_47 : decode b_M_goLine 47 = .ok (.getfield 94, 3) := by decide +kernel
theorem d_M_goLine_50 : decode b_M_goLine 50 = .ok (.iload 4, 2) := by decide +kernel
theorem d_M_goLine_52 : decode b_M_goLine 52 = .ok (.iconst (-1), 1) := by decide +kernel
theorem d_M_goLine_53 : decode b_M_goLine 53 = .ok (.iastore, 1) := by decide +kernel
theorem d_M_goLine_54 : decode b_M_goLine 54 = .ok (.aload_n 0, 1) := by decide +kernel
theorem d_M_goLine_55 : decode b_M_goLine 55 = .ok (.getfield 97, 3) := by decide +kernel
theorem d_M_goLine_58 : decode b_M_goLine 58 = .ok (.iload 4, 2) := by decide +kernel
theorem d_M_goLine_60 : decode b_M_goLine 60 = .ok (.iconst (-1), 1) := by decide +kernel
theorem d_M_goLine_61 : decode b_M_goLine 61 = .ok (.iastore, 1) := by decide +kernel
theorem d_M_goLine_62 : decode b_M_goLine 62 = .ok (.iload_n 2, 1) := by decide +kernel
theorem d_M_goLine_63 : decode b_M_goLine 63 = .ok (.ifCond .eq 6, 3) := by decide +kernel
theorem d_M_goLine_66 : decode b_M_goLine 66 = .ok (.goto 61, 3) := by decide +kernel
theorem d_M_goLine_69 : decode b_M_goLine 69 = .ok (.aload_n 0, 1) := by decide +kernel
theorem d_M_goLine_70 : decode b_M_goLine 70 = .ok (.iload_n 3, 1) := by decide +kernel
theorem d_M_goLine_71 : decode b_M_goLine 71 = .ok (.iload_n 1, 1) := by decide +kernel
theorem d_M_goLine_72 : decode b_M_goLine 72 = .ok (.invokevirtual 346, 3) := by decide +kernel
theorem d_M_goLine_75 : decode b_M_goLine 75 = .ok (.aload_n 0, 1) := by decide +kernel
theorem d_M_goLine_76 : decode b_M_goLine 76 = .ok (.getfield 22, 3) := by decide +kernel
theorem d_M_goLine_79 : decode b_M_goLine 79 = .ok (.iload 4, 2) := by decide +kernel
theorem d_M_goLine_81 : decode b_M_goLine 81 = .ok (.iaload, 1) := by decide +kernel
theorem d_M_goLine_82 : decode b_M_goLine 82 = .ok (.iadd, 1) := by decide +kernel
theorem d_M_goLine_83 : decode b_M_goLine 83 = .ok (.aload_n 0, 1) := by decide +kernel
theorem d_M_goLine_84 : decode b_M_goLine 84 = .ok (.getfield 44, 3) := by decide +kernel
theorem d_M_goLine_87 : decode b_M_goLine 87 = .ok (.if_icmp .le 13, 3) := by decide +kernel
theorem d_M_goLine_90 : decode b_M_goLine 90 = .ok (.aload_n 0, 1) := by decide +kernel
theorem d_M_goLine_91 : decode b_M_goLine 91 = .ok (.iload_n 3, 1) := by decide +kernel
theorem d_M_goLine_92 : decode b_M_goLine 92 = .ok (.iload_n 1, 1) := by decide +kernel
theorem d_M_goLine_93 : decode b_M_goLine 93 = .ok (.invokevirtual 349, 3) := by decide +kernel
theorem d_M_goLine_96 : decode b_M_goLine 96 = .ok (.istore_n 1, 1) := by decide +kernel
theorem d_M_goLine_97 : decode b_M_goLine 97 = .ok (.goto (-28), 3) := by decide +kernel
theorem d_M_goLine_100 : decode b_M_goLine 100 = .ok (.aload_n 0, 1) := by decide +kernel
theorem d_M_goLine_101 : decode b_M_goLine 101 = .ok (.getfield 94, 3) := by decide +kernel
theorem d_M_goLine_104 : decode b_M_goLine 104 = .ok (.iload 4, 2) := by decide +kernel
theorem d_M_goLine_106 : decode b_M_goLine 106 = .ok (.iload_n 1, 1) := by decide +kernel
theorem d_M_goLine_107 : decode b_M_goLine 107 = .ok (.iastore, 1) := by decide +kernel
theorem d_M_goLine_108 : decode b_M_goLine 108 = .ok (.aload_n 0, 1) := by decide +kernel
theorem d_M_goLine_109 : decode b_M_goLine 109 = .ok (.getfield 97, 3) := by decide +kernel
theorem d_M_goLine_112 : decode b_M_goLine 112 = .ok (.iload 4, 2) := by decide +kernel
theorem d_M_goLine_114 : decode b_M_goLine 114 = .ok (.iload_n 1, 1) := by decide +kernel
theorem d_M_goLine_115 : decode b_M_goLine 115 = .ok (.bipush 10, 2) := by decide +kernel
theorem d_M_goLine_117 : decode b_M_goLine 117 = .ok (.aload_n 0, 1) := by decide +kernel
theorem d_M_goLine_118 : decode b_M_goLine 118 = .ok (.getfield 25, 3) := by decide +kernel
theorem d_M_goLine_121 : decode b_M_goLine 121 = .ok (.iload 4, 2) := by decide +kernel
theorem d_M_goLine_123 : decode b_M_goLine 123 = .ok (.iaload, 1) := by decide +kernel
theorem d_M_goLine_124 : decode b_M_goLine 124 = .ok (.imul, 1) := by decide +kernel
theorem d_M_goLine_125 : decode b_M_goLine 125 = .ok (.iadd, 1) := by decide +kernel
theorem d_M_goLine_126 : decode b_M_goLine 126 = .ok (.iastore, 1) := by decide +kernel
theorem d_M_goLine_127 : decode b_M_goLine 127 = .ok (.iinc 3 1, 3) := by decide +kernel
theorem d_M_goLine_130 : decode b_M_goLine 130 = .ok (.goto (-124), 3) := by decide +kernel
theorem d_M_goLine_133 : decode b_M_goLine 133 = .ok (.return_, 1) := by decide +kernel
theorem d_M_goOrders_0 : decode b_M_goOrders 0 = .ok (.iload_n 2, 1) := by decide +kernel
theorem d_M_goOrders_1 : decode b_M_goOrders 1 = .ok (.iload_n 1, 1) := by decide +kernel
theorem d_M_goOrders_2 : decode b_M_goOrders 2 = .ok (.if_icmp .ne 70, 3) := by decide +kernel
theorem d_M_goOrders_5 : decode b_M_goOrders 5 = .ok (.aload_n 0, 1) := by decide +kernel
theorem d_M_goOrders_6 : decode b_M_goOrders 6 = .ok (.invokevirtual 356, 3) := by decide +kernel
theorem d_M_goOrders_9 : decode b_M_goOrders 9 = .ok (.aload_n 0, 1) := by decide +kernel
theorem d_M_goOrders_10 : decode b_M_goOrders 10 = .ok (.invokevirtual 359, 3) := by decide +kernel
theorem d_M_goOrders_13 : decode b_M_goOrders 13 = .ok (.istore_n 3, 1) := by decide +kernel
theorem d_M_goOrders_14 : decode b_M_goOrders 14 = .ok (.iload_n 3, 1) := by decide +kernel
theorem d_M_goOrders_15 : decode b_M_goOrders 15 = .ok (.ifCond .lt 18, 3) := by decide +kernel
theorem d_M_goOrders_18 : decode b_M_goOrders 18 = .ok (.aload_n 0, 1) := by decide +kernel
theorem d_M_goOrders_19 : decode b_M_goOrders 19 = .ok (.getfield 362, 3) := by decide +kernel
theorem d_M_goOrders_22 : decode b_M_goOrders 22 = .ok (.ifCond .lt 12, 3) := by decide +kernel
theorem d_M_goOrders_25 : decode b_M_goOrders 25 = .ok (.iload_n 3, 1) := by decide +kernel
theorem d_M_goOrders_26 : decode b_M_goOrders 26 = .ok (.aload_n 0, 1) := by decide +kernel
theorem d_M_goOrders_27 : decode b_M_goOrders 27 = .ok (.getfield 362, 3) := by decide +kernel
theorem d_M_goOrders_30 : decode b_M_goOrders 30 = .ok (.if_icmp .lt 4, 3) := by decide +kernel
theorem d_M_goOrders_33 : decode b_M_goOrders 33 = .ok (.return_, 1) := by decide +kernel
theorem d_M_goOrders_34 : decode b_M_goOrders 34 = .ok (.aload_n 0, 1) := by decide +kernel
theorem d_M_goOrders_35 : decode b_M_goOrders 35 = .ok (.iload_n 3, 1) := by decide +kernel
theorem d_M_goOrders_36 : decode b_M_goOrders 36 = .ok (.putfield 362, 3) := by decide +kernel
theorem d_M_goOrders_39 : decode b_M_goOrders 39 = .ok (.iconst 0, 1) := by decide +kernel
theorem d_M_goOrders_40 : decode b_M_goOrders 40 = .ok (.istore 4, 2) := by decide +kernel
theorem d_M_goOrders_42 : decode b_M_goOrders 42 = .ok (.iload 4, 2) := by decide +kernel
theorem d_M_goOrders_44 : decode b_M_goOrders 44 = .ok (.aload_n 0, 1) := by decide +kernel
theorem d_M_goOrders_45 : decode b_M_goOrders 45 = .ok (.getfield 343, 3) := by decide +kernel
theorem d_M_goOrders_48 : decode b_M_goOrders 48 = .ok (.if_icmp .ge 23, 3) := by decide +kernel
theorem d_M_goOrders_51 : decode b_M_goOrders 51 = .ok (.aload_n 0, 1) := by decide +kernel
theorem d_M_goOrders_52 : decode b_M_goOrders 52 = .ok (.getfield 103, 3) := by decide +kernel
theorem d_M_goOrders_55 : decode b_M_goOrders 55 = .ok (.iload 4, 2) := by decide +kernel
theorem d_M_goOrders_57 : decode b_M_goOrders 57 = .ok (.aload_n 0, 1) := by decide +kernel
theorem d_M_goOrders_58 : decode b_M_goOrders 58 = .ok (.getfield 100, 3) := by decide +kernel
theorem d_M_goOrders_61 : decode b_M_goOrders 61 = .ok (.iload 4, 2) := by decide +kernel
theorem d_M_goOrders_63 : decode b_M_goOrders 63 = .ok (.iaload, 1) := by decide +kernel
theorem d_M_goOrders_64 : decode b_M_goOrders 64 = .ok (.iastore, 1) := by decide +kernel
theorem d_M_goOrders_65 : decode b_M_goOrders 65 = .ok (.iinc 4 1, 3) := by decide +kernel
theorem d_M_goOrders_68 : decode b_M_goOrders 68 = .ok (.goto (-26), 3) := by decide +kernel
theorem d_M_goOrders_71 : decode b_M_goOrders 71 = .ok (.return_, 1) := by decide +kernel
theorem d_M_goOrders_72 : decode b_M_goOrders 72 = .ok (.iconst 0, 1) := by decide +kernel
theorem d_M_goOrders_73 : decode b_M_goOrders 73 = .ok (.istore_n 3, 1) := by decide +kernel
theorem d_M_goOrders_74 : decode b_M_goOrders 74 = .ok (.iload_n 3, 1) := by decide +kernel
theorem d_M_goOrders_75 : decode b_M_goOrders 75 = .ok (.aload_n 0, 1) := by decide +kernel
theorem d_M_goOrders_76 : decode b_M_goOrders 76 = .ok (.getfield 150, 3) := by decide +kernel
theorem d_M_goOrders_79 : decode b_M_goOrders 79 = .ok (.if_icmp .ge 69, 3) := by decide +kernel
theorem d_M_goOrders_82 : decode b_M_goOrders 82 = .ok (.iload_n 1, 1) := by decide +kernel
theorem d_M_goOrders_83 : decode b_M_goOrders 83 = .ok (.iload_n 3, 1) := by decide +kernel
theorem d_M_goOrders_84 : decode b_M_goOrders 84 = .ok (.ishr, 1) := by decide +kernel
theorem d_M_goOrders_85 : decode b_M_goOrders 85 = .ok (.iconst 1, 1) := by decide +kernel
theorem d_M_goOrders_86 : decode b_M_goOrders 86 = .ok (.iand, 1) := by decide +kernel
theorem d_M_goOrders_87 : decode b_M_goOrders 87 = .ok (.ifCond .eq 55, 3) := by decide +kernel
theorem d_M_goOrders_90 : decode b_M_goOrders 90 = .ok (.iload_n 2, 1) := by decide +kernel
theorem d_M_goOrders_91 : decode b_M_goOrders 91 = .ok (.iload_n 3, 1) := by decide +kernel
theorem d_M_goOrders_92 : decode b_M_goOrders 92 = .ok (.ishr, 1) := by decide +kernel
theorem d_M_goOrders_93 : decode b_M_goOrders 93 = .ok (.iconst 1, 1) := by decide +kernel
theorem d_M_goOrders_94 : decode b_M_goOrders 94 = .ok (.iand, 1) := by decide +kernel
theorem d_M_goOrders_95 : decode b_M_goOrders 95 = .ok (.iconst 1, 1) := by decide +kernel
theorem d_M_goOrders_96 : decode b_M_goOrders 96 = .ok (.if_icmp .ne 6, 3) := by decide +kernel
theorem d_M_goOrders_99 : decode b_M_goOrders 99 = .ok (.goto 43, 3) := by decide +kernel
theorem d_M_goOrders_102 : decode b_M_goOrders 102 = .ok (.aload_n 0, 1) := by decide +kernel
theorem d_M_goOrders_103 : decode b_M_goOrders 103 = .ok (.getfield 100, 3) := by decide +kernel
theorem d_M_goOrders_106 : decode b_M_goOrders 106 = .ok (.aload_n 0, 1) := by decide +kernel
theorem d_M_goOrders_107 : decode b_M_goOrders 107 = .ok (.getfield 343, 3) := by decide +kernel
theorem d_M_goOrders_110 : decode b_M_goOrders 110 = .ok (.iload_n 3, 1) := by decide +kernel
theorem d_M_goOrders_111 : decode b_M_goOrders 111 = .ok (.iastore, 1) := by decide +kernel
theorem d_M_goOrders_112 : decode b_M_goOrders 112 = .ok (.aload_n 0, 1) := by decide +kernel
theorem d_M_goOrders_113 : decode b_M_goOrders 113 = .ok (.dup, 1) := by decide +kernel
theorem d_M_goOrders_114 : decode b_M_goOrders 114 = .ok (.getfield 343, 3) := by decide +kernel
theorem d_M_goOrders_117 : decode b_M_goOrders 117 = .ok (.iconst 1, 1) := by decide +kernel
theorem d_M_goOrders_118 : decode b_M_goOrders 118 = .ok (.iadd, 1) := by decide +kernel
theorem d_M_goOrders_119 : decode b_M_goOrders 119 = .ok (.putfield 343, 3) := by decide +kernel
theorem d_M_goOrders_122 : decode b_M_goOrders 122 = .ok (.aload_n 0, 1) := by decide +kernel
theorem d_M_goOrders_123 : decode b_M_goOrders 123 = .ok (.iload_n 1, 1) := by decide +kernel
theorem d_M_goOrders_124 : decode b_M_goOrders 124 = .ok (.iload_n 2, 1) := by decide +kernel
theorem d_M_goOrders_125 : decode b_M_goOrders 125 = .ok (.iconst 1, 1) := by decide +kernel
theorem d_M_goOrders_126 : decode b_M_goOrders 126 = .ok (.iload_n 3, 1) := by decide +kernel
theorem d_M_goOrders_127 : decode b_M_goOrders 127 = .ok (.ishl, 1) := by decide +kernel
theorem d_M_goOrders_128 : decode b_M_goOrders 128 = .ok (.ior, 1) := by decide +kernel
theorem d_M_goOrders_129 : decode b_M_goOrders 129 = .ok (.invokevirtual 365, 3) := by decide +kernel
theorem d_M_goOrders_132 : decode b_M_goOrders 132 = .ok (.aload_n 0, 1) := by decide +kernel
theorem d_M_goOrders_133 : decode b_M_goOrders 133 = .ok (.dup, 1) := by decide +kernel
theorem d_M_goOrders_134 : decode b_M_goOrders 134 = .ok (.getfield 343, 3) := by decide +kernel
theorem d_M_goOrders_137 : decode b_M_goOrders 137 = .ok (.iconst 1, 1) := by decide +kernel
theorem d_M_goOrders_138 : decode b_M_goOrders 138 = .ok (.isub, 1) := by decide +kernel
theorem d_M_goOrders_139 : decode b_M_goOrders 139 = .ok (.putfield 343, 3) := by decide +kernel
theorem d_M_goOrders_142 : decode b_M_goOrders 142 = .ok (.iinc 3 1, 3) := by decide +kernel
theorem d_M_goOrders_145 : decode b_M_goOrders 145 = .ok (.goto (-71), 3) := by decide +kernel
theorem d_M_goOrders_148 : decode b_M_goOrders 148 = .ok (.return_, 1) := by decide +kernel
theorem d_M_goSafe_0 : decode b_M_goSafe 0 = .ok (.iload_n 3, 1) := by decide +kernel
theorem d_M_goSafe_1 : decode b_M_goSafe 1 = .ok (.aload_n 0, 1) := by decide +kernel
theorem d_M_goSafe_2 : decode b_M_goSafe 2 = .ok (.getfield 308, 3) := by decide +kernel
theorem d_M_goSafe_5 : decode b_M_goSafe 5 = .ok (.if_icmp .lt 4, 3) := by decide +kernel
theorem d_M_goSafe_8 : decode b_M_goSafe 8 = .ok (.return_, 1) := by decide +kernel
theorem d_M_goSafe_9 : decode b_M_goSafe 9 = .ok (.iload_n 2, 1) := by decide +kernel
theorem d_M_goSafe_10 : decode b_M_goSafe 10 = .ok (.aload_n 0, 1) := by decide +kernel
theorem d_M_goSafe_11 : decode b_M_goSafe 11 = .ok (.getfield 150, 3) := by decide +kernel
theorem d_M_goSafe_14 : decode b_M_goSafe 14 = .ok (.if_icmp .ne 52, 3) := by decide +kernel
theorem d_M_goSafe_17 : decode b_M_goSafe 17 = .ok (.aload_n 0, 1) := by decide +kernel
theorem d_M_goSafe_18 : decode b_M_goSafe 18 = .ok (.iload_n 3, 1) := by decide +kernel
theorem d_M_goSafe_19 : decode b_M_goSafe 19 = .ok (.iload 4, 2) := by decide +kernel
theorem d_M_goSafe_21 : decode b_M_goSafe 21 = .ok (.invokevirtual 311, 3) := by decide +kernel
theorem d_M_goSafe_24 : decode b_M_goSafe 24 = .ok (.ifCond .ne 4, 3) := by decide +kernel
theorem d_M_goSafe_27 : decode b_M_goSafe 27 = .ok (.return_, 1) := by decide +kernel
theorem d_M_goSafe_28 : decode b_M_goSafe 28 = .ok (.aload_n 0, 1) := by decide +kernel
theorem d_M_goSafe_29 : decode b_M_goSafe 29 = .ok (.iload_n 3, 1) := by decide +kernel
theorem d_M_goSafe_30 : decode b_M_goSafe 30 = .ok (.putfield 308, 3) := by decide +kernel
theorem d_M_goSafe_33 : decode b_M_goSafe 33 = .ok (.iconst 0, 1) := by decide +kernel
theorem d_M_goSafe_34 : decode b_M_goSafe 34 = .ok (.istore 5, 2) := by decide +kernel
theorem d_M_goSafe_36 : decode b_M_goSafe 36 = .ok (.iload 5, 2) := by decide +kernel
theorem d_M_goSafe_38 : decode b_M_goSafe 38 = .ok (.aload_n 0, 1) := by decide +kernel
theorem d_M_goSafe_39 : decode b_M_goSafe 39 = .ok (.getfield 150, 3) := by decide +kernel
theorem d_M_goSafe_42 : decode b_M_goSafe 42 = .ok (.if_icmp .ge 23, 3) := by decide +kernel
theorem d_M_goSafe_45 : decode b_M_goSafe 45 = .ok (.aload_n 0, 1) := by decide +kernel
theorem d_M_goSafe_46 : decode b_M_goSafe 46 = .ok (.getfield 91, 3) := by decide +kernel
theorem d_M_goSafe_49 : decode b_M_goSafe 49 = .ok (.iload 5, 2) := by decide +kernel
theorem d_M_goSafe_51 : decode b_M_goSafe 51 = .ok (.aload_n 0, 1) := by decide +kernel
theorem d_M_goSafe_52 : decode b_M_goSafe 52 = .ok (.getfield 88, 3) := by decide +kernel
theorem d_M_goSafe_55 : decode b_M_goSafe 55 = .ok (.iload 5, 2) := by decide +kernel
theorem d_M_goSafe_57 : decode b_M_goSafe 57 = .ok (.iaload, 1) := by decide +kernel
theorem d_M_goSafe_58 : decode b_M_goSafe 58 = .ok (.iastore, 1) := by decide +kernel
theorem d_M_goSafe_59 : decode b_M_goSafe 59 = .ok (.iinc 5 1, 3) := by decide +kernel
theorem d_M_goSafe_62 : decode b_M_goSafe 62 = .ok (.goto (-26), 3) := by decide +kernel
theorem d_M_goSafe_65 : decode b_M_goSafe 65 = .ok (.return_, 1) := by decide +kernel
theorem d_M_goSafe_66 : decode b_M_goSafe 66 = .ok (.iload_n 1, 1) := by decide +kernel
theorem d_M_goSafe_67 : decode b_M_goSafe 67 = .ok (.iload_n 2, 1) := by decide +kernel
theorem d_M_goSafe_68 : decode b_M_goSafe 68 = .ok (.ishr, 1) := by decide +kernel
theorem d_M_goSafe_69 : decode b_M_goSafe 69 = .ok (.iconst 1, 1) := by decide +kernel
theorem d_M_goSafe_70 : decode b_M_goSafe 70 = .ok (.iand, 1) := by decide +kernel
theorem d_M_goSafe_71 : decode b_M_goSafe 71 = .ok (.ifCond .ne 15, 3) := by decide +kernel
theorem d_M_goSafe_74 : decode b_M_goSafe 74 = .ok (.aload_n 0, 1) := by decide +kernel
theorem d_M_goSafe_75 : decode b_M_goSafe 75 = .ok (.iload_n 1, 1) := by decide +kernel
theorem d_M_goSafe_76 : decode b_M_goSafe 76 = .ok (.iload_n 2, 1) := by decide +kernel
theorem d_M_goSafe_77 : decode b_M_goSafe 77 = .ok (.iconst 1, 1) := by decide +kernel
theorem d_M_goSafe_78 : decode b_M_goSafe 78 = .ok (.iadd, 1) := by decide +kernel
theorem d_M_goSafe_79 : decode b_M_goSafe 79 = .ok (.iload_n 3, 1) := by decide +kernel
theorem d_M_goSafe_80 : decode b_M_goSafe 80 = .ok (.iload 4, 2) := by decide +kernel
theorem d_M_goSafe_82 : decode b_M_goSafe 82 = .ok (.invokevirtual 314, 3) := by decide +kernel
theorem d_M_goSafe_85 : decode b_M_goSafe 85 = .ok (.return_, 1) := by decide +kernel
theorem d_M_goSafe_86 : decode b_M_goSafe 86 = .ok (.iconst 0, 1) := by decide +kernel
theorem d_M_goSafe_87 : decode b_M_goSafe 87 = .ok (.istore 5, 2) := by decide +kernel
theorem d_M_goSafe_89 : decode b_M_goSafe 89 = .ok (.iload 5, 2) := by decide +kernel
theorem d_M_goSafe_91 : decode b_M_goSafe 91 = .ok (.iload_n 3, 1) := by decide +kernel
theorem d_M_goSafe_92 : decode b_M_goSafe 92 = .ok (.if_icmp .gt 88, 3) := by decide +kernel
theorem d_M_goSafe_95 : decode b_M_goSafe 95 = .ok (.iload 5, 2) := by decide +kernel
theorem d_M_goSafe_97 : decode b_M_goSafe 97 = .ok (.bipush 10, 2) := by decide +kernel
theorem d_M_goSafe_99 : decode b_M_goSafe 99 = .ok (.if_icmp .ge 81, 3) := by decide +kernel
theorem d_M_goSafe_102 : decode b_M_goSafe 102 = .ok (.iload 5, 2) := by decide +kernel
theorem d_M_goSafe_104 : decode b_M_goSafe 104 = .ok (.iload_n 3, 1) := by decide +kernel
theorem d_M_goSafe_105 : decode b_M_goSafe 105 = .ok (.if_icmp .ne 7, 3) := by decide +kernel
theorem d_M_goSafe_108 : decode b_M_goSafe 108 = .ok (.iconst 0, 1) := by decide +kernel
theorem d_M_goSafe_109 : decode b_M_goSafe 109 = .ok (.goto 10, 3) := by decide +kernel
theorem d_M_goSafe_112 : decode b_M_goSafe 112 = .ok (.aload_n 0, 1) := by decide +kernel
theorem d_M_goSafe_113 : decode b_M_goSafe 113 = .ok (.getfield 85, 3) := by decide +kernel
theorem d_M_goSafe_116 : decode b_M_goSafe 116 = .ok (.iload 5, 2) := by decide +kernel
theorem d_M_goSafe_118 : decode b_M_goSafe 118 = .ok (.iaload, 1) := by decide +kernel
theorem d_M_goSafe_119 : decode b_M_goSafe 119 = .ok (.istore 6, 2) := by decide +kernel
theorem d_M_goSafe_121 : decode b_M_goSafe 121 = .ok (.aload_n 0, 1) := by decide +kernel
theorem d_M_goSafe_122 : decode b_M_goSafe 122 = .ok (.getfield 85, 3) := by decide +kernel
theorem d_M_goSafe_125 : decode b_M_goSafe 125 = .ok (.iload 5, 2) := by decide +kernel
theorem d_M_goSafe_127 : decode b_M_goSafe 127 = .ok (.iload 6, 2) := by decide +kernel
theorem d_M_goSafe_129 : decode b_M_goSafe 129 = .ok (.iconst 1, 1) := by decide +kernel
theorem d_M_goSafe_130 : decode b_M_goSafe 130 = .ok (.iload_n 2, 1) := by decide +kernel
theorem d_M_goSafe_131 : decode b_M_goSafe 131 = .ok (.ishl, 1) := by decide +kernel
theorem d_M_goSafe_132 : decode b_M_goSafe 132 = .ok (.ior, 1) := by decide +kernel
theorem d_M_goSafe_133 : decode b_M_goSafe 133 = .ok (.iastore, 1) := by decide +kernel
theorem d_M_goSafe_134 : decode b_M_goSafe 134 = .ok (.aload_n 0, 1) := by decide +kernel
theorem d_M_goSafe_135 : decode b_M_goSafe 135 = .ok (.getfield 88, 3) := by decide +kernel
theorem d_M_goSafe_138 : decode b_M_goSafe 138 = .ok (.iload_n 2, 1) := by decide +kernel
theorem d_M_goSafe_139 : decode b_M_goSafe 139 = .ok (.iload 5, 2) := by decide +kernel
theorem d_M_goSafe_141 : decode b_M_goSafe 141 = .ok (.iastore, 1) := by decide +kernel
theorem d_M_goSafe_142 : decode b_M_goSafe 142 = .ok (.aload_n 0, 1) := by decide +kernel
theorem d_M_goSafe_143 : decode b_M_goSafe 143 = .ok (.iload_n 1, 1) := by decide +kernel
theorem d_M_goSafe_144 : decode b_M_goSafe 144 = .ok (.iload_n 2, 1) := by decide +kernel
theorem d_M_goSafe_145 : decode b_M_goSafe 145 = .ok (.iconst 1, 1) := by decide +kernel
theorem d_M_goSafe_146 : decode b_M_goSafe 146 = .ok (.iadd, 1) := by decide +kernel
theorem d_M_goSafe_147 : decode b_M_goSafe 147 = .ok (.iload 5, 2) := by decide +kernel
theorem d_M_goSafe_149 : decode b_M_goSafe 149 = .ok (.iload_n 3, 1) := by decide +kernel
theorem d_M_goSafe_150 : decode b_M_goSafe 150 = .ok (.if_icmp .ne 9, 3) := by decide +kernel
theorem d_M_goSafe_153 : decode b_M_goSafe 153 = .ok (.iload_n 3, 1) := by decide +kernel
theorem d_M_goSafe_154 : decode b_M_goSafe 154 = .ok (.iconst 1, 1) := by decide +kernel
theorem d_M_goSafe_155 : decode b_M_goSafe 155 = .ok (.iadd, 1) := by decide +kernel
theorem d_M_goSafe_156 : decode b_M_goSafe 156 = .ok (.goto 4, 3) := by decide +kernel
theorem d_M_goSafe_159 : decode b_M_goSafe 159 = .ok (.iload_n 3, 1) := by decide +kernel
theorem d_M_goSafe_160 : decode b_M_goSafe 160 = .ok (.iload 4, 2) := by decide +kernel
theorem d_M_goSafe_162 : decode b_M_goSafe 162 = .ok (.invokevirtual 314, 3) := by decide +kernel
theorem d_M_goSafe_165 : decode b_M_goSafe 165 = .ok (.aload_n 0, 1) := by decide +kernel
theorem d_M_goSafe_166 : decode b_M_goSafe 166 = .ok (.getfield 85, 3) := by decide +kernel
theorem d_M_goSafe_169 : decode b_M_goSafe 169 = .ok (.iload 5, 2) := by decide +kernel
theorem d_M_goSafe_171 : decode b_M_goSafe 171 = .ok (.iload 6, 2) := by decide +kernel
theorem d_M_goSafe_173 : decode b_M_goSafe 173 = .ok (.iastore, 1) := by decide +kernel
theorem d_M_goSafe_174 : decode b_M_goSafe 174 = .ok (.iinc 5 1, 3) := by decide +kernel
theorem d_M_goSafe_177 : decode b_M_goSafe 177 = .ok (.goto (-88), 3) := by decide +kernel
theorem d_M_goSafe_180 : decode b_M_goSafe 180 = .ok (.return_, 1) := by decide +kernel
theorem d_M_heaps_0 : decode b_M_heaps 0 = .ok (.aload_n 0, 1) := by decide +kernel
theorem d_M_heaps_1 : decode b_M_heaps 1 = .ok (.iload_n 1, 1) := by decide +kernel
theorem d_M_heaps_2 : decode b_M_heaps 2 = .ok (.invokevirtual 289, 3) := by decide +kernel
theorem d_M_heaps_5 : decode b_M_heaps 5 = .ok (.ifCond .eq 24, 3) := by decide +kernel
theorem d_M_heaps_8 : decode b_M_heaps 8 = .ok (.iload_n 2, 1) := by decide +kernel
theorem d_M_heaps_9 : decode b_M_heaps 9 = .ok (.invokestatic 305, 3) := by decide +kernel
theorem d_M_heaps_12 : decode b_M_heaps 12 = .ok (.ifCond .eq 17, 3) := by decide +kernel
theorem d_M_heaps_15 : decode b_M_heaps 15 = .ok (.iload_n 3, 1) := by decide +kernel
theorem d_M_heaps_16 : decode b_M_heaps 16 = .ok (.iconst (-1), 1) := by decide +kernel
theorem d_M_heaps_17 : decode b_M_heaps 17 = .ok (.aload_n 0, 1) := by decide +kernel
theorem d_M_heaps_18 : decode b_M_heaps 18 = .ok (.getfield 150, 3) := by decide +kernel
theorem d_M_heaps_21 : decode b_M_heaps 21 = .ok (.iconst 1, 1) := by decide +kernel
theorem d_M_heaps_22 : decode b_M_heaps 22 = .ok (.isub, 1) := by decide +kernel
theorem d_M_heaps_23 : decode b_M_heaps 23 = .ok (.invokestatic 153, 3) := by decide +kernel
theorem d_M_heaps_26 : decode b_M_heaps 26 = .ok (.ifCond .ne 5, 3) := by decide +kernel
theorem d_M_heaps_29 : decode b_M_heaps 29 = .ok (.iconst (-1), 1) := by decide +kernel
theorem d_M_heaps_30 : decode b_M_heaps 30 = .ok (.ireturn, 1) := by decide +kernel
theorem d_M_heaps_31 : decode b_M_heaps 31 = .ok (.iload_n 1, 1) := by decide +kernel
theorem d_M_heaps_32 : decode b_M_heaps 32 = .ok (.invokestatic 318, 3) := by decide +kernel
theorem d_M_heaps_35 : decode b_M_heaps 35 = .ok (.bipush 8, 2) := by decide +kernel
theorem d_M_heaps_37 : decode b_M_heaps 37 = .ok (.if_icmp .le 6, 3) := by decide +kernel
theorem d_M_heaps_40 : decode b_M_heaps 40 = .ok (.bipush (-5), 2) := by decide +kernel
theorem d_M_heaps_42 : decode b_M_heaps 42 = .ok (.ireturn, 1) := by decide +kernel
theorem d_M_heaps_43 : decode b_M_heaps 43 = .ok (.aload_n 0, 1) := by decide +kernel
theorem d_M_heaps_44 : decode b_M_heaps 44 = .ok (.bipush 11, 2) := by decide +kernel
theorem d_M_heaps_46 : decode b_M_heaps 46 = .ok (.putfield 308, 3) := by decide +kernel
theorem d_M_heaps_49 : decode b_M_heaps 49 = .ok (.aload_n 0, 1) := by decide +kernel
theorem d_M_heaps_50 : decode b_M_heaps 50 = .ok (.iload_n 1, 1) := by decide +kernel
theorem d_M_heaps_51 : decode b_M_heaps 51 = .ok (.iconst 0, 1) := by decide +kernel
theorem d_M_heaps_52 : decode b_M_heaps 52 = .ok (.iconst 0, 1) := by decide +kernel
theorem d_M_heaps_53 : decode b_M_heaps 53 = .ok (.iload_n 2, 1) := by decide +kernel
theorem d_M_heaps_54 : decode b_M_heaps 54 = .ok (.invokevirtual 314, 3) := by decide +kernel
theorem d_M_heaps_57 : decode b_M_heaps 57 = .ok (.aload_n 0, 1) := by decide +kernel
theorem d_M_heaps_58 : decode b_M_heaps 58 = .ok (.getfield 308, 3) := by decide +kernel
theorem d_M_heaps_61 : decode b_M_heaps 61 = .ok (.bipush 10, 2) := by decide +kernel
theorem d_M_heaps_63 : decode b_M_heaps 63 = .ok (.if_icmp .le 6, 3) := by decide +kernel
theorem d_M_heaps_66 : decode b_M_heaps 66 = .ok (.bipush (-2), 2) := by decide +kernel
theorem d_M_heaps_68 : decode b_M_heaps 68 = .ok (.ireturn, 1) := by decide +kernel
theorem d_M_heaps_69 : decode b_M_heaps 69 = .ok (.iload_n 3, 1) := by decide +kernel
theorem d_M_heaps_70 : decode b_M_heaps 70 = .ok (.ifCond .ge 10, 3) := by decide +kernel
theorem d_M_heaps_73 : decode b_M_heaps 73 = .ok (.aload_n 0, 1) := by decide +kernel
theorem d_M_heaps_74 : decode b_M_heaps 74 = .ok (.getfield 308, 3) := by decide +kernel
theorem d_M_heaps_77 : decode b_M_heaps 77 = .ok (.goto 23, 3) := by decide +kernel
theorem d_M_heaps_80 : decode b_M_heaps 80 = .ok (.iload_n 1, 1) := by decide +kernel
theorem d_M_heaps_81 : decode b_M_heaps 81 = .ok (.iload_n 3, 1) := by decide +kernel
theorem d_M_heaps_82 : decode b_M_heaps 82 = .ok (.ishr, 1) := by decide +kernel
theorem d_M_heaps_83 : decode b_M_heaps 83 = .ok (.iconst 1, 1) := by decide +kernel
theorem d_M_heaps_84 : decode b_M_heaps 84 = .ok (.iand, 1) := by decide +kernel
theorem d_M_heaps_85 : decode b_M_heaps 85 = .ok (.iconst 1, 1) := by decide +kernel
theorem d_M_heaps_86 : decode b_M_heaps 86 = .ok (.if_icmp .ne 12, 3) := by decide +kernel
theorem d_M_heaps_89 : decode b_M_heaps 89 = .ok (.aload_n 0, 1) := by decide +kernel
theorem d_M_heaps_90 : decode b_M_heaps 90 = .ok (.getfield 91, 3) := by decide +kernel
theorem d_M_heaps_93 : decode b_M_heaps 93 = .ok (.iload_n 3, 1) := by decide +kernel
theorem d_M_heaps_94 : decode b_M_heaps 94 = .ok (.iaload, 1) := by decide +kernel
theorem d_M_heaps_95 : decode b_M_heaps 95 = .ok (.goto 5, 3) := by decide +kernel
theorem d_M_heaps_98 : decode b_M_heaps 98 = .ok (.bipush (-2), 2) := by decide +kernel
theorem d_M_heaps_100 : decode b_M_heaps 100 = .ok (.ireturn, 1) := by decide +kernel
theorem d_M_heat_0 : decode b_M_heat 0 = .ok (.aload_n 0, 1) := by decide +kernel
theorem d_M_heat_1 : decode b_M_heat 1 = .ok (.iload_n 1, 1) := by decide +kernel
theorem d_M_heat_2 : decode b_M_heat 2 = .ok (.invokevirtual 289, 3) := by decide +kernel
theorem d_M_heat_5 : decode b_M_heat 5 = .ok (.ifCond .eq 13, 3) := by decide +kernel
theorem d_M_heat_8 : decode b_M_heat 8 = .ok (.iload_n 2, 1) := by decide +kernel
theorem d_M_heat_9 : decode b_M_heat 9 = .ok (.iconst 0, 1) := by decide +kernel
theorem d_M_heat_10 : decode b_M_heat 10 = .ok (.bipush 99, 2) := by decide +kernel
theorem d_M_heat_12 : decode b_M_heat 12 = .ok (.invokestatic 153, 3) := by decide +kernel
theorem d_M_heat_15 : decode b_M_heat 15 = .ok (.ifCond .ne 5, 3) := by decide +kernel
theorem d_M_heat_18 : decode b_M_heat 18 = .ok (.iconst (-1), 1) := by decide +kernel
theorem d_M_heat_19 : decode b_M_heat 19 = .ok (.ireturn, 1) := by decide +kernel
theorem d_M_heat_20 : decode b_M_heat 20 = .ok (.bipush 9, 2) := by decide +kernel
theorem d_M_heat_22 : decode b_M_heat 22 = .ok (.istore_n 3, 1) := by decide +kernel
theorem d_M_heat_23 : decode b_M_heat 23 = .ok (.iload_n 3, 1) := by decide +kernel
theorem d_M_heat_24 : decode b_M_heat 24 = .ok (.iconst 3, 1) := by decide +kernel
theorem d_M_heat_25 : decode b_M_heat 25 = .ok (.if_icmp .lt 22, 3) := by decide +kernel
theorem d_M_heat_28 : decode b_M_heat 28 = .ok (.aload_n 0, 1) := by decide +kernel
theorem d_M_heat_29 : decode b_M_heat 29 = .ok (.iload_n 1, 1) := by decide +kernel
theorem d_M_heat_30 : decode b_M_heat 30 = .ok (.iload_n 3, 1) := by decide +kernel
theorem d_M_heat_31 : decode b_M_heat 31 = .ok (.iconst 0, 1) := by decide +kernel
theorem d_M_heat_32 : decode b_M_heat 32 = .ok (.iload_n 2, 1) := by decide +kernel
theorem d_M_heat_33 : decode b_M_heat 33 = .ok (.invokevirtual 301, 3) := by decide +kernel
theorem d_M_heat_36 : decode b_M_heat 36 = .ok (.ifCond .eq 5, 3) := by decide +kernel
theorem d_M_heat_39 : decode b_M_heat 39 = .ok (.iload_n 3, 1) := by decide +kernel
theorem d_M_heat_40 : decode b_M_heat 40 = .ok (.ireturn, 1) := by decide +kernel
theorem d_M_heat_41 : decode b_M_heat 41 = .ok (.iinc 3 (-1), 3) := by decide +kernel
theorem d_M_heat_44 : decode b_M_heat 44 = .ok (.goto (-21), 3) := by decide +kernel
theorem d_M_heat_47 : decode b_M_heat 47 = .ok (.bipush (-2), 2) := by decide +kernel
theorem d_M_heat_49 : decode b_M_heat 49 = .ok (.ireturn, 1) := by decide +kernel
theorem d_M_rowFault_0 : decode b_M_rowFault 0 = .ok (.aload_n 0, 1) := by decide +kernel
theorem d_M_rowFault_1 : decode b_M_rowFault 1 = .ok (.getfield 134, 3) := by decide +kernel
theorem d_M_rowFault_4 : decode b_M_rowFault 4 = .ok (.iload_n 1, 1) := by decide +kernel
theorem d_M_rowFault_5 : decode b_M_rowFault 5 = .ok (.iaload, 1) := by decide +kernel
theorem d_M_rowFault_6 : decode b_M_rowFault 6 = .ok (.iconst (-1), 1) := by decide +kernel
theorem d_M_rowFault_7 : decode b_M_rowFault 7 = .ok (.if_icmp .ne 8, 3) := by decide +kernel
theorem d_M_rowFault_10 : decode b_M_rowFault 10 = .ok (.bipush (-11), 2) := by decide +kernel
theorem d_M_rowFault_12 : decode b_M_rowFault 12 = .ok (.goto 22, 3) := by decide +kernel
theorem d_M_rowFault_15 : decode b_M_rowFault 15 = .ok (.aload_n 0, 1) := by decide +kernel
theorem d_M_rowFault_16 : decode b_M_rowFault 16 = .ok (.getfield 134, 3) := by decide +kernel
theorem d_M_rowFault_19 : decode b_M_rowFault 19 = .ok (.iload_n 1, 1) := by decide +kernel
theorem d_M_rowFault_20 : decode b_M_rowFault 20 = .ok (.iaload, 1) := by decide +kernel
theorem d_M_rowFault_21 : decode b_M_rowFault 21 = .ok (.bipush (-2), 2) := by decide +kernel
theorem d_M_rowFault_23 : decode b_M_rowFault 23 = .ok (.iload_n 2, 1) := by decide +kernel
theorem d_M_rowFault_24 : decode b_M_rowFault 24 = .ok (.isub, 1) := by decide +kernel
theorem d_M_rowFault_25 : decode b_M_rowFault 25 = .ok (.if_icmp .ne 7, 3) := by decide +kernel
theorem d_M_rowFault_28 : decode b_M_rowFault 28 = .ok (.iconst 0, 1) := by decide +kernel
theorem d_M_rowFault_29 : decode b_M_rowFault 29 = .ok (.goto 5, 3) := by decide +kernel
theorem d_M_rowFault_32 : decode b_M_rowFault 32 = .ok (.bipush (-12), 2) := by decide +kernel
theorem d_M_rowFault_34 : decode b_M_rowFault 34 = .ok (.ireturn, 1) := by decide +kernel
theorem d_M_wrongPink_0 : decode b_M_wrongPink 0 = .ok (.aload_n 0, 1) := by decide +kernel
theorem d_M_wrongPink_1 : decode b_M_wrongPink 1 = .ok (.iload_n 3, 1) := by decide +kernel
theorem d_M_wrongPink_2 : decode b_M_wrongPink 2 = .ok (.iload 4, 2) := by decide +kernel
theorem d_M_wrongPink_4 : decode b_M_wrongPink 4 = .ok (.iload 5, 2) := by decide +kernel
theorem d_M_wrongPink_6 : decode b_M_wrongPink 6 = .ok (.invokevirtual 277, 3) := by decide +kernel
theorem d_M_wrongPink_9 : decode b_M_wrongPink 9 = .ok (.istore 6, 2) := by decide +kernel
theorem d_M_wrongPink_11 : decode b_M_wrongPink 11 = .ok (.iconst 0, 1) := by decide +kernel
theorem d_M_wrongPink_12 : decode b_M_wrongPink 12 = .ok (.istore 7, 2) := by decide +kernel
theorem d_M_wrongPink_14 : decode b_M_wrongPink 14 = .ok (.iload 7, 2) := by decide +kernel
theorem d_M_wrongPink_16 : decode b_M_wrongPink 16 = .ok (.aload_n 0, 1) := by decide +kernel
theorem d_M_wrongPink_17 : decode b_M_wrongPink 17 = .ok (.getfield 150, 3) := by decide +kernel
theorem d_M_wrongPink_20 : decode b_M_wrongPink 20 = .ok (.if_icmp .ge 53, 3) := by decide +kernel
theorem d_M_wrongPink_23 : decode b_M_wrongPink 23 = .ok (.iload 7, 2) := by decide +kernel
theorem d_M_wrongPink_25 : decode b_M_wrongPink 25 = .ok (.aload_n 0, 1) := by decide +kernel
theorem d_M_wrongPink_26 : decode b_M_wrongPink 26 = .ok (.getfield 137, 3) := by decide +kernel
theorem d_M_wrongPink_29 : decode b_M_wrongPink 29 = .ok (.iload_n 1, 1) := by decide +kernel
theorem d_M_wrongPink_30 : decode b_M_wrongPink 30 = .ok (.iaload, 1) := by decide +kernel
theorem d_M_wrongPink_31 : decode b_M_wrongPink 31 = .ok (.if_icmp .ge 42, 3) := by decide +kernel
theorem d_M_wrongPink_34 : decode b_M_wrongPink 34 = .ok (.iload_n 2, 1) := by decide +kernel
theorem d_M_wrongPink_35 : decode b_M_wrongPink 35 = .ok (.iload 7, 2) := by decide +kernel
theorem d_M_wrongPink_37 : decode b_M_wrongPink 37 = .ok (.ishr, 1) := by decide +kernel
theorem d_M_wrongPink_38 : decode b_M_wrongPink 38 = .ok (.iconst 1, 1) := by decide +kernel
theorem d_M_wrongPink_39 : decode b_M_wrongPink 39 = .ok (.iand, 1) := by decide +kernel
theorem d_M_wrongPink_40 : decode b_M_wrongPink 40 = .ok (.iconst 1, 1) := by decide +kernel
theorem d_M_wrongPink_41 : decode b_M_wrongPink 41 = .ok (.if_icmp .ne 26, 3) := by decide +kernel
theorem d_M_wrongPink_44 : decode b_M_wrongPink 44 = .ok (.aload_n 0, 1) := by decide +kernel
theorem d_M_wrongPink_45 : decode b_M_wrongPink 45 = .ok (.iload 7, 2) := by decide +kernel
theorem d_M_wrongPink_47 : decode b_M_wrongPink 47 = .ok (.iload 6, 2) := by decide +kernel
theorem d_M_wrongPink_49 : decode b_M_wrongPink 49 = .ok (.iload 4, 2) := by decide +kernel
theorem d_M_wrongPink_51 : decode b_M_wrongPink 51 = .ok (.invokevirtual 280, 3) := by decide +kernel
theorem d_M_wrongPink_54 : decode b_M_wrongPink 54 = .ok (.aload_n 0, 1) := by decide +kernel
theorem d_M_wrongPink_55 : decode b_M_wrongPink 55 = .ok (.iload_n 1, 1) := by decide +kernel
theorem d_M_wrongPink_56 : decode b_M_wrongPink 56 = .ok (.iload 7, 2) := by decide +kernel
theorem d_M_wrongPink_58 : decode b_M_wrongPink 58 = .ok (.invokevirtual 330, 3) := by decide +kernel
theorem d_M_wrongPink_61 : decode b_M_wrongPink 61 = .ok (.if_icmp .eq 6, 3) := by decide +kernel
theorem d_M_wrongPink_64 : decode b_M_wrongPink 64 = .ok (.iload 7, 2) := by decide +kernel
theorem d_M_wrongPink_66 : decode b_M_wrongPink 66 = .ok (.ireturn, 1) := by decide +kernel
theorem d_M_wrongPink_67 : decode b_M_wrongPink 67 = .ok (.iinc 7 1, 3) := by decide +kernel
theorem d_M_wrongPink_70 : decode b_M_wrongPink 70 = .ok (.goto (-56), 3) := by decide +kernel
theorem d_M_wrongPink_73 : decode b_M_wrongPink 73 = .ok (.bipush (-2), 2) := by decide +kernel
theorem d_M_wrongPink_75 : decode b_M_wrongPink 75 = .ok (.ireturn, 1) := by decide +kernel
theorem d_M_heatOfIt_0 : decode b_M_heatOfIt 0 = .ok (.iload_n 1, 1) := by decide +kernel
theorem d_M_heatOfIt_1 : decode b_M_heatOfIt 1 = .ok (.invokestatic 161, 3) := by decide +kernel
theorem d_M_heatOfIt_4 : decode b_M_heatOfIt 4 = .ok (.ifCond .eq 11, 3) := by decide +kernel
theorem d_M_heatOfIt_7 : decode b_M_heatOfIt 7 = .ok (.aload_n 0, 1) := by decide +kernel
theorem d_M_heatOfIt_8 : decode b_M_heatOfIt 8 = .ok (.iload_n 2, 1) := by decide +kernel
theorem d_M_heatOfIt_9 : decode b_M_heatOfIt 9 = .ok (.invokevirtual 289, 3) := by decide +kernel
theorem d_M_heatOfIt_12 : decode b_M_heatOfIt 12 = .ok (.ifCond .ne 5, 3) := by decide +kernel
theorem d_M_heatOfIt_15 : decode b_M_heatOfIt 15 = .ok (.iconst (-1), 1) := by decide +kernel
theorem d_M_heatOfIt_16 : decode b_M_heatOfIt 16 = .ok (.ireturn, 1) := by decide +kernel
theorem d_M_heatOfIt_17 : decode b_M_heatOfIt 17 = .ok (.aload_n 0, 1) := by decide +kernel
theorem d_M_heatOfIt_18 : decode b_M_heatOfIt 18 = .ok (.iload_n 1, 1) := by decide +kernel
theorem d_M_heatOfIt_19 : decode b_M_heatOfIt 19 = .ok (.iconst 1, 1) := by decide +kernel
theorem d_M_heatOfIt_20 : decode b_M_heatOfIt 20 = .ok (.invokevirtual 337, 3) := by decide +kernel
theorem d_M_heatOfIt_23 : decode b_M_heatOfIt 23 = .ok (.istore_n 3, 1) := by decide +kernel
theorem d_M_heatOfIt_24 : decode b_M_heatOfIt 24 = .ok (.iload_n 3, 1) := by decide +kernel
theorem d_M_heatOfIt_25 : decode b_M_heatOfIt 25 = .ok (.ifCond .ge 5, 3) := by decide +kernel
theorem d_M_heatOfIt_28 : decode b_M_heatOfIt 28 = .ok (.iload_n 3, 1) := by decide +kernel
theorem d_M_heatOfIt_29 : decode b_M_heatOfIt 29 = .ok (.ireturn, 1) := by decide +kernel
theorem d_M_heatOfIt_30 : decode b_M_heatOfIt 30 = .ok (.iconst 3, 1) := by decide +kernel
theorem d_M_heatOfIt_31 : decode b_M_heatOfIt 31 = .ok (.istore 4, 2) := by decide +kernel
theorem d_M_heatOfIt_33 : decode b_M_heatOfIt 33 = .ok (.iload 4, 2) := by decide +kernel
theorem d_M_heatOfIt_35 : decode b_M_heatOfIt 35 = .ok (.bipush 9, 2) := by decide +kernel
theorem d_M_heatOfIt_37 : decode b_M_heatOfIt 37 = .ok (.if_icmp .gt 25, 3) := by decide +kernel
theorem d_M_heatOfIt_40 : decode b_M_heatOfIt 40 = .ok (.aload_n 0, 1) := by decide +kernel
theorem d_M_heatOfIt_41 : decode b_M_heatOfIt 41 = .ok (.iload_n 1, 1) := by decide +kernel
theorem d_M_heatOfIt_42 : decode b_M_heatOfIt 42 = .ok (.iload_n 2, 1) := by decide +kernel
theorem d_M_heatOfIt_43 : decode b_M_heatOfIt 43 = .ok (.iload_n 2, 1) := by decide +kernel
theorem d_M_heatOfIt_44 : decode b_M_heatOfIt 44 = .ok (.iload 4, 2) := by decide +kernel
theorem d_M_heatOfIt_46 : decode b_M_heatOfIt 46 = .ok (.iconst 0, 1) := by decide +kernel
theorem d_M_heatOfIt_47 : decode b_M_heatOfIt 47 = .ok (.invokevirtual 368, 3) := by decide +kernel
theorem d_M_heatOfIt_50 : decode b_M_heatOfIt 50 = .ok (.ifCond .ge 6, 3) := by decide +kernel
theorem d_M_heatOfIt_53 : decode b_M_heatOfIt 53 = .ok (.iload 4, 2) := by decide +kernel
theorem d_M_heatOfIt_55 : decode b_M_heatOfIt 55 = .ok (.ireturn, 1) := by decide +kernel
theorem d_M_heatOfIt_56 : decode b_M_heatOfIt 56 = .ok (.iinc 4 1, 3) := by decide +kernel
theorem d_M_heatOfIt_59 : decode b_M_heatOfIt 59 = .ok (.goto (-26), 3) := by decide +kernel
theorem d_M_heatOfIt_62 : decode b_M_heatOfIt 62 = .ok (.bipush (-2), 2) := by decide +kernel
theorem d_M_heatOfIt_64 : decode b_M_heatOfIt 64 = .ok (.ireturn, 1) := by decide +kernel
theorem d_M_image_0 : decode b_M_image 0 = .ok (.aload_n 0, 1) := by decide +kernel
theorem d_M_image_1 : decode b_M_image 1 = .ok (.iconst 1, 1) := by decide +kernel
theorem d_M_image_2 : decode b_M_image 2 = .ok (.putfield 376, 3) := by decide +kernel
theorem d_M_image_5 : decode b_M_image 5 = .ok (.aload_n 0, 1) := by decide +kernel
theorem d_M_image_6 : decode b_M_image 6 = .ok (.aload_n 0, 1) := by decide +kernel
theorem d_M_image_7 : decode b_M_image 7 = .ok (.getfield 150, 3) := by decide +kernel
theorem d_M_image_10 : decode b_M_image 10 = .ok (.putfield 379, 3) := by decide +kernel
theorem d_M_image_13 : decode b_M_image 13 = .ok (.iconst 0, 1) := by decide +kernel
theorem d_M_image_14 : decode b_M_image 14 = .ok (.istore_n 1, 1) := by decide +kernel
theorem d_M_image_15 : decode b_M_image 15 = .ok (.iload_n 1, 1) := by decide +kernel
theorem d_M_image_16 : decode b_M_image 16 = .ok (.aload_n 0, 1) := by decide +kernel
theorem d_M_image_17 : decode b_M_image 17 = .ok (.getfield 150, 3) := by decide +kernel
theorem d_M_image_20 : decode b_M_image 20 = .ok (.if_icmp .ge 45, 3) := by decide +kernel
theorem d_M_image_23 : decode b_M_image 23 = .ok (.aload_n 0, 1) := by decide +kernel
theorem d_M_image_24 : decode b_M_image 24 = .ok (.getfield 116, 3) := by decide +kernel
theorem d_M_image_27 : decode b_M_image 27 = .ok (.iload_n 1, 1) := by decide +kernel
theorem d_M_image_28 : decode b_M_image 28 = .ok (.aload_n 0, 1) := by decide +kernel
theorem d_M_image_29 : decode b_M_image 29 = .ok (.getfield 16, 3) := by decide +kernel
theorem d_M_image_32 : decode b_M_image 32 = .ok (.iload_n 1, 1) := by decide +kernel
theorem d_M_image_33 : decode b_M_image 33 = .ok (.iaload, 1) := by decide +kernel
theorem d_M_image_34 : decode b_M_image 34 = .ok (.iastore, 1) := by decide +kernel
theorem d_M_image_35 : decode b_M_image 35 = .ok (.aload_n 0, 1) := by decide +kernel
theorem d_M_image_36 : decode b_M_image 36 = .ok (.getfield 119, 3) := by decide +kernel
theorem d_M_image_39 : decode b_M_image 39 = .ok (.iload_n 1, 1) := by decide +kernel
theorem d_M_image_40 : decode b_M_image 40 = .ok (.aload_n 0, 1) := by decide +kernel
theorem d_M_image_41 : decode b_M_image 41 = .ok (.getfield 106, 3) := by decide +kernel
theorem d_M_image_44 : decode b_M_image 44 = .ok (.iload_n 1, 1) := by decide +kernel
theorem d_M_image_45 : decode b_M_image 45 = .ok (.iaload, 1) := by decide +kernel
theorem d_M_image_46 : decode b_M_image 46 = .ok (.iastore, 1) := by decide +kernel
theorem d_M_image_47 : decode b_M_image 47 = .ok (.aload_n 0, 1) := by decide +kernel
theorem d_M_image_48 : decode b_M_image 48 = .ok (.getfield 122, 3) := by decide +kernel
theorem d_M_image_51 : decode b_M_image 51 = .ok (.iload_n 1, 1) := by decide +kernel
theorem d_M_image_52 : decode b_M_image 52 = .ok (.aload_n 0, 1) := by decide +kernel
theorem d_M_image_53 : decode b_M_image 53 = .ok (.getfield 109, 3) := by decide +kernel
theorem d_M_image_56 : decode b_M_image 56 = .ok (.iload_n 1, 1) := by decide +kernel
theorem d_M_image_57 : decode b_M_image 57 = .ok (.baload, 1) := by decide +kernel
theorem d_M_image_58 : decode b_M_image 58 = .ok (.bastore, 1) := by decide +kernel
theorem d_M_image_59 : decode b_M_image 59 = .ok (.iinc 1 1, 3) := by decide +kernel
theorem d_M_image_62 : decode b_M_image 62 = .ok (.goto (-47), 3) := by decide +kernel
theorem d_M_image_65 : decode b_M_image 65 = .ok (.iconst 0, 1) := by decide +kernel
theorem d_M_image_66 : decode b_M_image 66 = .ok (.istore_n 1, 1) := by decide +kernel
theorem d_M_image_67 : decode b_M_image 67 = .ok (.iload_n 1, 1) := by decide +kernel
theorem d_M_image_68 : decode b_M_image 68 = .ok (.iconst 5, 1) := by decide +kernel
theorem d_M_image_69 : decode b_M_image 69 = .ok (.if_icmp .ge 21, 3) := by decide +kernel
theorem d_M_image_72 : decode b_M_image 72 = .ok (.aload_n 0, 1) := by decide +kernel
theorem d_M_image_73 : decode b_M_image 73 = .ok (.getfield 125, 3) := by decide +kernel
theorem d_M_image_76 : decode b_M_image 76 = .ok (.iload_n 1, 1) := by decide +kernel
theorem d_M_image_77 : decode b_M_image 77 = .ok (.aload_n 0, 1) := by decide +kernel
theorem d_M_image_78 : decode b_M_image 78 = .ok (.getfield 113, 3) := by decide +kernel
theorem d_M_image_81 : decode b_M_image 81 = .ok (.iload_n 1, 1) := by decide +kernel
theorem d_M_image_82 : decode b_M_image 82 = .ok (.iaload, 1) := by decide +kernel
theorem d_M_image_83 : decode b_M_image 83 = .ok (.iastore, 1) := by decide +kernel
theorem d_M_image_84 : decode b_M_image 84 = .ok (.iinc 1 1, 3) := by decide +kernel
theorem d_M_image_87 : decode b_M_image 87 = .ok (.goto (-20), 3) := by decide +kernel
theorem d_M_image_90 : decode b_M_image 90 = .ok (.aload_n 0, 1) := by decide +kernel
theorem d_M_image_91 : decode b_M_image 91 = .ok (.getfield 113, 3) := by decide +kernel
theorem d_M_image_94 : decode b_M_image 94 = .ok (.iconst 0, 1) := by decide +kernel
theorem d_M_image_95 : decode b_M_image 95 = .ok (.iaload, 1) := by decide +kernel
theorem d_M_image_96 : decode b_M_image 96 = .ok (.ireturn, 1) := by decide +kernel
theorem d_M_isOne_0 : decode b_M_isOne 0 = .ok (.iload_n 2, 1) := by decide +kernel
theorem d_M_isOne_1 : decode b_M_isOne 1 = .ok (.iconst 0, 1) := by decide +kernel
theorem d_M_isOne_2 : decode b_M_isOne 2 = .ok (.bipush 7, 2) := by decide +kernel
theorem d_M_isOne_4 : decode b_M_isOne 4 = .ok (.invokestatic 153, 3) := by decide +kernel
theorem d_M_isOne_7 : decode b_M_isOne 7 = .ok (.ifCond .eq 11, 3) := by decide +kernel
theorem d_M_isOne_10 : decode b_M_isOne 10 = .ok (.aload_n 0, 1) := by decide +kernel
theorem d_M_isOne_11 : decode b_M_isOne 11 = .ok (.iload_n 1, 1) := by decide +kernel
theorem d_M_isOne_12 : decode b_M_isOne 12 = .ok (.invokevirtual 181, 3) := by decide +kernel
theorem d_M_isOne_15 : decode b_M_isOne 15 = .ok (.goto 23, 3) := by decide +kernel
theorem d_M_isOne_18 : decode b_M_isOne 18 = .ok (.iload_n 2, 1) := by decide +kernel
theorem d_M_isOne_19 : decode b_M_isOne 19 = .ok (.bipush 8, 2) := by decide +kernel
theorem d_M_isOne_21 : decode b_M_isOne 21 = .ok (.bipush 11, 2) := by decide +kernel
theorem d_M_isOne_23 : decode b_M_isOne 23 = .ok (.invokestatic 153, 3) := by decide +kernel
theorem d_M_isOne_26 : decode b_M_isOne 26 = .ok (.ifCond .eq 11, 3) := by decide +kernel
theorem d_M_isOne_29 : decode b_M_isOne 29 = .ok (.iload_n 1, 1) := by decide +kernel
theorem d_M_isOne_30 : decode b_M_isOne 30 = .ok (.ifCond .ne 7, 3) := by decide +kernel
theorem d_M_isOne_33 : decode b_M_isOne 33 = .ok (.iconst 1, 1) := by decide +kernel
theorem d_M_isOne_34 : decode b_M_isOne 34 = .ok (.goto 4, 3) := by decide +kernel
theorem d_M_isOne_37 : decode b_M_isOne 37 = .ok (.iconst 0, 1) := by decide +kernel
theorem d_M_isOne_38 : decode b_M_isOne 38 = .ok (.ireturn, 1) := by decide +kernel
theorem d_M_offBy_0 : decode b_M_offBy 0 = .ok (.iload_n 1, 1) := by decide +kernel
theorem d_M_offBy_1 : decode b_M_offBy 1 = .ok (.bipush 10, 2) := by decide +kernel
theorem d_M_offBy_3 : decode b_M_offBy 3 = .ok (.irem, 1) := by decide +kernel
theorem d_M_offBy_4 : decode b_M_offBy 4 = .ok (.iconst 1, 1) := by decide +kernel
theorem d_M_offBy_5 : decode b_M_offBy 5 = .ok (.if_icmp .ne 10, 3) := by decide +kernel
theorem d_M_offBy_8 : decode b_M_offBy 8 = .ok (.aload_n 0, 1) := by decide +kernel
theorem d_M_offBy_9 : decode b_M_offBy 9 = .ok (.getfield 38, 3) := by decide +kernel
theorem d_M_offBy_12 : decode b_M_offBy 12 = .ok (.goto 4, 3) := by decide +kernel
theorem d_M_offBy_15 : decode b_M_offBy 15 = .ok (.iconst 0, 1) := by decide +kernel
theorem d_M_offBy_16 : decode b_M_offBy 16 = .ok (.ireturn, 1) := by decide +kernel
theorem d_M_judge_0 : decode b_M_judge 0 = .ok (.iload_n 1, 1) := by decide +kernel
theorem d_M_judge_1 : decode b_M_judge 1 = .ok (.invokestatic 161, 3) := by decide +kernel
theorem d_M_judge_4 : decode b_M_judge 4 = .ok (.ifCond .eq 18, 3) := by decide +kernel
theorem d_M_judge_7 : decode b_M_judge 7 = .ok (.aload_n 0, 1) := by decide +kernel
theorem d_M_judge_8 : decode b_M_judge 8 = .ok (.iload_n 2, 1) := by decide +kernel
theorem d_M_judge_9 : decode b_M_judge 9 = .ok (.invokevirtual 289, 3) := by decide +kernel
theorem d_M_judge_12 : decode b_M_judge 12 = .ok (.ifCond .eq 10, 3) := by decide +kernel
theorem d_M_judge_15 : decode b_M_judge 15 = .ok (.iload_n 3, 1) := by decide +kernel
theorem d_M_judge_16 : decode b_M_judge 16 = .ok (.invokestatic 292, 3) := by decide +kernel
theorem d_M_judge_19 : decode b_M_judge 19 = .ok (.ifCond .ne 5, 3) := by decide +kernel
theorem d_M_judge_22 : decode b_M_judge 22 = .ok (.iconst (-1), 1) := by decide +kernel
theorem d_M_judge_23 : decode b_M_judge 23 = .ok (.ireturn, 1) := by decide +kernel
theorem d_M_judge_24 : decode b_M_judge 24 = .ok (.aload_n 0, 1) := by decide +kernel
theorem d_M_judge_25 : decode b_M_judge 25 = .ok (.iload_n 1, 1) := by decide +kernel
theorem d_M_judge_26 : decode b_M_judge 26 = .ok (.iconst 1, 1) := by decide +kernel
theorem d_M_judge_27 : decode b_M_judge 27 = .ok (.invokevirtual 337, 3) := by decide +kernel
theorem d_M_judge_30 : decode b_M_judge 30 = .ok (.istore 4, 2) := by decide +kernel
theorem d_M_judge_32 : decode b_M_judge 32 = .ok (.iload 4, 2) := by decide +kernel
theorem d_M_judge_34 : decode b_M_judge 34 = .ok (.ifCond .ge 8, 3) := by decide +kernel
theorem d_M_judge_37 : decode b_M_judge 37 = .ok (.iload 4, 2) := by decide +kernel
theorem d_M_judge_39 : decode b_M_judge 39 = .ok (.goto 19, 3) := by decide +kernel
theorem d_M_judge_42 : decode b_M_judge 42 = .ok (.aload_n 0, 1) := by decide +kernel
theorem d_M_judge_43 : decode b_M_judge 43 = .ok (.iload_n 1, 1) := by decide +kernel
theorem d_M_judge_44 : decode b_M_judge 44 = .ok (.iload_n 2, 1) := by decide +kernel
theorem d_M_judge_45 : decode b_M_judge 45 = .ok (.iload_n 2, 1) := by decide +kernel
theorem d_M_judge_46 : decode b_M_judge 46 = .ok (.iload_n 3, 1) := by decide +kernel
theorem d_M_judge_47 : decode b_M_judge 47 = .ok (.bipush 10, 2) := by decide +kernel
theorem d_M_judge_49 : decode b_M_judge 49 = .ok (.idiv, 1) := by decide +kernel
theorem d_M_judge_50 : decode b_M_judge 50 = .ok (.aload_n 0, 1) := by decide +kernel
theorem d_M_judge_51 : decode b_M_judge 51 = .ok (.iload_n 3, 1) := by decide +kernel
theorem d_M_judge_52 : decode b_M_judge 52 = .ok (.invokevirtual 295, 3) := by decide +kernel
theorem d_M_judge_55 : decode b_M_judge 55 = .ok (.invokevirtual 368, 3) := by decide +kernel
theorem d_M_judge_58 : decode b_M_judge 58 = .ok (.ireturn, 1) := by decide +kernel
theorem d_M_keep_0 : decode b_M_keep 0 = .ok (.iload_n 1, 1) := by decide +kernel
theorem d_M_keep_1 : decode b_M_keep 1 = .ok (.invokestatic 161, 3) := by decide +kernel
theorem d_M_keep_4 : decode b_M_keep 4 = .ok (.ifCond .eq 16, 3) := by decide +kernel
theorem d_M_keep_7 : decode b_M_keep 7 = .ok (.iload_n 2, 1) := by decide +kernel
theorem d_M_keep_8 : decode b_M_keep 8 = .ok (.iconst (-1), 1) := by decide +kernel
theorem d_M_keep_9 : decode b_M_keep 9 = .ok (.if_icmp .eq 13, 3) := by decide +kernel
theorem d_M_keep_12 : decode b_M_keep 12 = .ok (.aload_n 0, 1) := by decide +kernel
theorem d_M_keep_13 : decode b_M_keep 13 = .ok (.iload_n 2, 1) := by decide +kernel
theorem d_M_keep_14 : decode b_M_keep 14 = .ok (.invokevirtual 424, 3) := by decide +kernel
theorem d_M_keep_17 : decode b_M_keep 17 = .ok (.ifCond .ne 5, 3) := by decide +kernel
theorem d_M_keep_20 : decode b_M_keep 20 = .ok (.iconst (-1), 1) := by decide +kernel
theorem d_M_keep_21 : decode b_M_keep 21 = .ok (.ireturn, 1) := by decide +kernel
theorem d_M_keep_22 : decode b_M_keep 22 = .ok (.aload_n 0, 1) := by decide +kernel
theorem d_M_keep_23 : decode b_M_keep 23 = .ok (.getfield 134, 3) := by decide +kernel
theorem d_M_keep_26 : decode b_M_keep 26 = .ok (.iload_n 1, 1) := by decide +kernel
theorem d_M_keep_27 : decode b_M_keep 27 = .ok (.iload_n 2, 1) := by decide +kernel
theorem d_M_keep_28 : decode b_M_keep 28 = .ok (.iastore, 1) := by decide +kernel
theorem d_M_keep_29 : decode b_M_keep 29 = .ok (.iconst 1, 1) := by decide +kernel
theorem d_M_keep_30 : decode b_M_keep 30 = .ok (.ireturn, 1) := by decide +kernel
theorem d_M_late_0 : decode b_M_late 0 = .ok (.iload_n 1, 1) := by decide +kernel
theorem d_M_late_1 : decode b_M_late 1 = .ok (.invokestatic 161, 3) := by decide +kernel
theorem d_M_late_4 : decode b_M_late 4 = .ok (.ifCond .eq 12, 3) := by decide +kernel
theorem d_M_late_7 : decode b_M_late 7 = .ok (.iload_n 2, 1) := by decide +kernel
theorem d_M_late_8 : decode b_M_late 8 = .ok (.iconst 0, 1) := by decide +kernel
theorem d_M_late_9 : decode b_M_late 9 = .ok (.iconst 1, 1) := by decide +kernel
theorem d_M_late_10 : decode b_M_late 10 = .ok (.invokestatic 153, 3) := by decide +kernel
theorem d_M_late_13 : decode b_M_late 13 = .ok (.ifCond .ne 5, 3) := by decide +kernel
theorem d_M_late_16 : decode b_M_late 16 = .ok (.iconst (-1), 1) := by decide +kernel
theorem d_M_late_17 : decode b_M_late 17 = .ok (.ireturn, 1) := by decide +kernel
theorem d_M_late_18 : decode b_M_late 18 = .ok (.aload_n 0, 1) := by decide +kernel
theorem d_M_late_19 : decode b_M_late 19 = .ok (.iload_n 1, 1) := by decide +kernel
theorem d_M_late_20 : decode b_M_late 20 = .ok (.iconst 0, 1) := by decide +kernel
theorem d_M_late_21 : decode b_M_late 21 = .ok (.invokevirtual 337, 3) := by decide +kernel
theorem d_M_late_24 : decode b_M_late 24 = .ok (.istore_n 3, 1) := by decide +kernel
theorem d_M_late_25 : decode b_M_late 25 = .ok (.iload_n 3, 1) := by decide +kernel
theorem d_M_late_26 : decode b_M_late 26 = .ok (.ifCond .ge 5, 3) := by decide +kernel
theorem d_M_late_29 : decode b_M_late 29 = .ok (.iload_n 3, 1) := by decide +kernel
theorem d_M_late_30 : decode b_M_late 30 = .ok (.ireturn, 1) := by decide +kernel
theorem d_M_late_31 : decode b_M_late 31 = .ok (.iload_n 2, 1) := by decide +kernel
theorem d_M_late_32 : decode b_M_late 32 = .ok (.iconst 1, 1) := by decide +kernel
theorem d_M_late_33 : decode b_M_late 33 = .ok (.if_icmp .ne 11, 3) := by decide +kernel
theorem d_M_late_36 : decode b_M_late 36 = .ok (.aload_n 0, 1) := by decide +kernel
theorem d_M_late_37 : decode b_M_late 37 = .ok (.iload_n 1, 1) := by decide +kernel
theorem d_M_late_38 : decode b_M_late 38 = .ok (.iconst 0, 1) := by decide +kernel
theorem d_M_late_39 : decode b_M_late 39 = .ok (.iconst 0, 1) := by decide +kernel
theorem d_M_late_40 : decode b_M_late 40 = .ok (.invokevirtual 340, 3) := by decide +kernel
theorem d_M_late_43 : decode b_M_late 43 = .ok (.ireturn, 1) := by decide +kernel
theorem d_M_late_44 : decode b_M_late 44 = .ok (.iconst 0, 1) := by decide +kernel
theorem d_M_late_45 : decode b_M_late 45 = .ok (.istore 4, 2) := by decide +kernel
theorem d_M_late_47 : decode b_M_late 47 = .ok (.iconst 0, 1) := by decide +kernel
theorem d_M_late_48 : decode b_M_late 48 = .ok (.istore 5, 2) := by decide +kernel
theorem d_M_late_50 : decode b_M_late 50 = .ok (.iload 5, 2) := by decide +kernel
theorem d_M_late_52 : decode b_M_late 52 = .ok (.aload_n 0, 1) := by decide +kernel
theorem d_M_late_53 : decode b_M_late 53 = .ok (.getfield 150, 3) := by decide +kernel
theorem d_M_late_56 : decode b_M_late 56 = .ok (.if_icmp .ge 46, 3) := by decide +kernel
theorem d_M_late_59 : decode b_M_late 59 = .ok (.aload_n 0, 1) := by decide +kernel
theorem d_M_late_60 : decode b_M_late 60 = .ok (.iload_n 1, 1) := by decide +kernel
theorem d_M_late_61 : decode b_M_late 61 = .ok (.iload 5, 2) := by decide +kernel
theorem d_M_late_63 : decode b_M_late 63 = .ok (.iconst 0, 1) := by decide +kernel
theorem d_M_late_64 : decode b_M_late 64 = .ok (.iconst 0, 1) := by decide +kernel
theorem d_M_late_65 : decode b_M_late 65 = .ok (.invokevirtual 333, 3) := by decide +kernel
theorem d_M_late_68 : decode b_M_late 68 = .ok (.istore 6, 2) := by decide +kernel
theorem d_M_late_70 : decode b_M_late 70 = .ok (.iload 6, 2) := by decide +kernel
theorem d_M_late_72 : decode b_M_late 72 = .ok (.ifCond .lt 15, 3) := by decide +kernel
theorem d_M_late_75 : decode b_M_late 75 = .ok (.iload 6, 2) := by decide +kernel
theorem d_M_late_77 : decode b_M_late 77 = .ok (.aload_n 0, 1) := by decide +kernel
theorem d_M_late_78 : decode b_M_late 78 = .ok (.getfield 31, 3) := by decide +kernel
theorem d_M_late_81 : decode b_M_late 81 = .ok (.iload 5, 2) := by decide +kernel
theorem d_M_late_83 : decode b_M_late 83 = .ok (.iaload, 1) := by decide +kernel
theorem d_M_late_84 : decode b_M_late 84 = .ok (.if_icmp .le 12, 3) := by decide +kernel
theorem d_M_late_87 : decode b_M_late 87 = .ok (.iload 4, 2) := by decide +kernel
theorem d_M_late_89 : decode b_M_late 89 = .ok (.iconst 1, 1) := by decide +kernel
theorem d_M_late_90 : decode b_M_late 90 = .ok (.iload 5, 2) := by decide +kernel
theorem d_M_late_92 : decode b_M_late 92 = .ok (.ishl, 1) := by decide +kernel
theorem d_M_late_93 : decode b_M_late 93 = .ok (.ior, 1) := by decide +kernel
theorem d_M_late_94 : decode b_M_late 94 = .ok (.istore 4, 2) := by decide +kernel
theorem d_M_late_96 : decode b_M_late 96 = .ok (.iinc 5 1, 3) := by decide +kernel
theorem d_M_late_99 : decode b_M_late 99 = .ok (.goto (-49), 3) := by decide +kernel
theorem d_M_late_102 : decode b_M_late 102 = .ok (.iload 4, 2) := by decide +kernel
theorem d_M_late_104 : decode b_M_late 104 = .ok (.ireturn, 1) := by decide +kernel
theorem d_M_oneLine_0 : decode b_M_oneLine 0 = .ok (.bipush 61, 2) := by decide +kernel
theorem d_M_oneLine_2 : decode b_M_oneLine 2 = .ok (.aload_n 0, 1) := by decide +kernel
theorem d_M_oneLine_3 : decode b_M_oneLine 3 = .ok (.getfield 69, 3) := by decide +kernel
theorem d_M_oneLine_6 : decode b_M_oneLine 6 = .ok (.iconst 1, 1) := by decide +kernel
theorem d_M_oneLine_7 : decode b_M_oneLine 7 = .ok (.iaload, 1) := by decide +kernel
theorem d_M_oneLine_8 : decode b_M_oneLine 8 = .ok (.iadd, 1) := by decide +kernel
theorem d_M_oneLine_9 : decode b_M_oneLine 9 = .ok (.istore_n 1, 1) := by decide +kernel
theorem d_M_oneLine_10 : decode b_M_oneLine 10 = .ok (.aload_n 0, 1) := by decide +kernel
theorem d_M_oneLine_11 : decode b_M_oneLine 11 = .ok (.getfield 72, 3) := by decide +kernel
theorem d_M_oneLine_14 : decode b_M_oneLine 14 = .ok (.iload_n 1, 1) := by decide +kernel
theorem d_M_oneLine_15 : decode b_M_oneLine 15 = .ok (.aload_n 0, 1) := by decide +kernel
theorem d_M_oneLine_16 : decode b_M_oneLine 16 = .ok (.getfield 203, 3) := by decide +kernel
theorem d_M_oneLine_19 : decode b_M_oneLine 19 = .ok (.i2s, 1) := by decide +kernel
theorem d_M_oneLine_20 : decode b_M_oneLine 20 = .ok (.sastore, 1) := by decide +kernel
theorem d_M_oneLine_21 : decode b_M_oneLine 21 = .ok (.aload_n 0, 1) := by decide +kernel
theorem d_M_oneLine_22 : decode b_M_oneLine 22 = .ok (.invokevirtual 231, 3) := by decide +kernel
theorem d_M_oneLine_25 : decode b_M_oneLine 25 = .ok (.aload_n 0, 1) := by decide +kernel
theorem d_M_oneLine_26 : decode b_M_oneLine 26 = .ok (.getfield 200, 3) := by decide +kernel
theorem d_M_oneLine_29 : decode b_M_oneLine 29 = .ok (.ifCond .ge 37, 3) := by decide +kernel
theorem d_M_oneLine_32 : decode b_M_oneLine 32 = .ok (.aload_n 0, 1) := by decide +kernel
theorem d_M_oneLine_33 : decode b_M_oneLine 33 = .ok (.invokevirtual 212, 3) := by decide +kernel
theorem d_M_oneLine_36 : decode b_M_oneLine 36 = .ok (.bipush 63, 2) := by decide +kernel
theorem d_M_oneLine_38 : decode b_M_oneLine 38 = .ok (.if_icmp .ne 28, 3) := by decide +kernel
theorem d_M_oneLine_41 : decode b_M_oneLine 41 = .ok (.aload_n 0, 1) := by decide +kernel
theorem d_M_oneLine_42 : decode b_M_oneLine 42 = .ok (.dup, 1) := by decide +kernel
theorem d_M_oneLine_43 : decode b_M_oneLine 43 = .ok (.getfield 197, 3) := by decide +kernel
theorem d_M_oneLine_46 : decode b_M_oneLine 46 = .ok (.iconst 1, 1) := by decide +kernel
theorem d_M_oneLine_47 : decode b_M_oneLine 47 = .ok (.iadd, 1) := by decide +kernel
theorem d_M_oneLine_48 : decode b_M_oneLine 48 = .ok (.putfield 197, 3) := by decide +kernel
theorem d_M_oneLine_51 : decode b_M_oneLine 51 = .ok (.aload_n 0, 1) := by decide +kernel
theorem d_M_oneLine_52 : decode b_M_oneLine 52 = .ok (.getfield 72, 3) := by decide +kernel
theorem d_M_oneLine_55 : decode b_M_oneLine 55 = .ok (.iload_n 1, 1) := by decide +kernel
theorem d_M_oneLine_56 : decode b_M_oneLine 56 = .ok (.aload_n 0, 1) := by decide +kernel
theorem d_M_oneLine_57 : decode b_M_oneLine 57 = .ok (.getfield 203, 3) := by decide +kernel
theorem d_M_oneLine_60 : decode b_M_oneLine 60 = .ok (.i2s, 1) := by decide +kernel
theorem d_M_oneLine_61 : decode b_M_oneLine 61 = .ok (.sastore, 1) := by decide +kernel
theorem d_M_oneLine_62 : decode b_M_oneLine 62 = .ok (.aload_n 0, 1) := by decide +kernel
theorem d_M_oneLine_63 : decode b_M_oneLine 63 = .ok (.invokevirtual 231, 3) := by decide +kernel
theorem d_M_oneLine_66 : decode b_M_oneLine 66 = .ok (.aload_n 0, 1) := by decide +kernel
theorem d_M_oneLine_67 : decode b_M_oneLine 67 = .ok (.getfield 76, 3) := by decide +kernel
theorem d_M_oneLine_70 : decode b_M_oneLine 70 = .ok (.iload_n 1, 1) := by decide +kernel
theorem d_M_oneLine_71 : decode b_M_oneLine 71 = .ok (.aload_n 0, 1) := by decide +kernel
theorem d_M_oneLine_72 : decode b_M_oneLine 72 = .ok (.getfield 203, 3) := by decide +kernel
theorem d_M_oneLine_75 : decode b_M_oneLine 75 = .ok (.i2s, 1) := by decide +kernel
theorem d_M_oneLine_76 : decode b_M_oneLine 76 = .ok (.sastore, 1) := by decide +kernel
theorem d_M_oneLine_77 : decode b_M_oneLine 77 = .ok (.aload_n 0, 1) := by decide +kernel
theorem d_M_oneLine_78 : decode b_M_oneLine 78 = .ok (.getfield 69, 3) := by decide +kernel
theorem d_M_oneLine_81 : decode b_M_oneLine 81 = .ok (.iconst 1, 1) := by decide +kernel
theorem d_M_oneLine_82 : decode b_M_oneLine 82 = .ok (.dup2, 1) := by decide +kernel
theorem d_M_oneLine_83 : decode b_M_oneLine 83 = .ok (.iaload, 1) := by decide +kernel
theorem d_M_oneLine_84 : decode b_M_oneLine 84 = .ok (.iconst 1, 1) := by decide +kernel
theorem d_M_oneLine_85 : decode b_M_oneLine 85 = .ok (.iadd, 1) := by decide +kernel
theorem d_M_oneLine_86 : decode b_M_oneLine 86 = .ok (.iastore, 1) := by decide +kernel
theorem d_M_oneLine_87 : decode b_M_oneLine 87 = .ok (.return_, 1) := by decide +kernel
theorem d_M_readText_0 : decode b_M_readText 0 = .ok (.aload_n 0, 1) := by decide +kernel
theorem d_M_readText_1 : decode b_M_readText 1 = .ok (.iconst 0, 1) := by decide +kernel
theorem d_M_readText_2 : decode b_M_readText 2 = .ok (.putfield 197, 3) := by decide +kernel
theorem d_M_readText_5 : decode b_M_readText 5 = .ok (.aload_n 0, 1) := by decide +kernel
theorem d_M_readText_6 : decode b_M_readText 6 = .ok (.iconst (-1), 1) := by decide +kernel
theorem d_M_readText_7 : decode b_M_readText 7 = .ok (.putfield 200, 3) := by decide +kernel
theorem d_M_readText_10 : decode b_M_readText 10 = .ok (.aload_n 0, 1) := by decide +kernel
theorem d_M_readText_11 : decode b_M_readText 11 = .ok (.iconst 0, 1) := by decide +kernel
theorem d_M_readText_12 : decode b_M_readText 12 = .ok (.putfield 206, 3) := by decide +kernel
theorem d_M_readText_15 : decode b_M_readText 15 = .ok (.aload_n 0, 1) := by decide +kernel
theorem d_M_readText_16 : decode b_M_readText 16 = .ok (.iconst 0, 1) := by decide +kernel
theorem d_M_readText_17 : decode b_M_readText 17 = .ok (.putfield 203, 3) := by decide +kernel
theorem d_M_readText_20 : decode b_M_readText 20 = .ok (.aload_n 0, 1) := by decide +kernel
theorem d_M_readText_21 : decode b_M_readText 21 = .ok (.getfield 69, 3) := by decide +kernel
theorem d_M_readText_24 : decode b_M_readText 24 = .ok (.iconst 1, 1) := by decide +kernel
theorem d_M_readText_25 : decode b_M_readText 25 = .ok (.iconst 0, 1) := by decide +kernel
theorem d_M_readText_26 : decode b_M_readText 26 = .ok (.iastore, 1) := by decide +kernel
theorem d_M_readText_27 : decode b_M_readText 27 = .ok (.aload_n 0, 1) := by decide +kernel
theorem d_M_readText_28 : decode b_M_readText 28 = .ok (.invokevirtual 249, 3) := by decide +kernel
theorem d_M_readText_31 : decode b_M_readText 31 = .ok (.aload_n 0, 1) := by decide +kernel
theorem d_M_readText_32 : decode b_M_readText 32 = .ok (.getfield 200, 3) := by decide +kernel
theorem d_M_readText_35 : decode b_M_readText 35 = .ok (.ifCond .ge 29, 3) := by decide +kernel
theorem d_M_readText_38 : decode b_M_readText 38 = .ok (.aload_n 0, 1) := by decide +kernel
theorem d_M_readText_39 : decode b_M_readText 39 = .ok (.invokevirtual 212, 3) := by decide +kernel
theorem d_M_readText_42 : decode b_M_readText 42 = .ok (.bipush 59, 2) := by decide +kernel
theorem d_M_readText_44 : decode b_M_readText 44 = .ok (.if_icmp .ne 20, 3) := by decide +kernel
theorem d_M_readText_47 : decode b_M_readText 47 = .ok (.aload_n 0, 1) := by decide +kernel
theorem d_M_readText_48 : decode b_M_readText 48 = .ok (.dup, 1) := by decide +kernel
theorem d_M_readText_49 : decode b_M_readText 49 = .ok (.getfield 197, 3) := by decide +kernel
theorem d_M_readText_52 : decode b_M_readText 52 = .ok (.iconst 1, 1) := by decide +kernel
theorem d_M_readText_53 : decode b_M_readText 53 = .ok (.iadd, 1) := by decide +kernel
theorem d_M_readText_54 : decode b_M_readText 54 = .ok (.putfield 197, 3) := by decide +kernel
theorem d_M_readText_57 : decode b_M_readText 57 = .ok (.aload_n 0, 1) := by decide +kernel
theorem d_M_readText_58 : decode b_M_readText 58 = .ok (.invokevirtual 249, 3) := by decide +kernel
theorem d_M_readText_61 : decode b_M_readText 61 = .ok (.goto (-30), 3) := by decide +kernel
theorem d_M_readText_64 : decode b_M_readText 64 = .ok (.aload_n 0, 1) := by decide +kernel
theorem d_M_readText_65 : decode b_M_readText 65 = .ok (.getfield 200, 3) := by decide +kernel
theorem d_M_readText_68 : decode b_M_readText 68 = .ok (.ifCond .ge 18, 3) := by decide +kernel
theorem d_M_readText_71 : decode b_M_readText 71 = .ok (.aload_n 0, 1) := by decide +kernel
theorem d_M_readText_72 : decode b_M_readText 72 = .ok (.getfield 197, 3) := by decide +kernel
theorem d_M_readText_75 : decode b_M_readText 75 = .ok (.aload_n 0, 1) := by decide +kernel
theorem d_M_readText_76 : decode b_M_readText 76 = .ok (.getfield 194, 3) := by decide +kernel
theorem d_M_readText_79 : decode b_M_readText 79 = .ok (.if_icmp .ge 7, 3) := by decide +kernel
theorem d_M_readText_82 : decode b_M_readText 82 = .ok (.aload_n 0, 1) := by decide +kernel
theorem d_M_readText_83 : decode b_M_readText 83 = .ok (.invokevirtual 209, 3) := by decide +kernel
theorem d_M_readText_86 : decode b_M_readText 86 = .ok (.aload_n 0, 1) := by decide +kernel
theorem d_M_readText_87 : decode b_M_readText 87 = .ok (.iconst 0, 1) := by decide +kernel
theorem d_M_readText_88 : decode b_M_readText 88 = .ok (.putfield 194, 3) := by decide +kernel
theorem d_M_readText_91 : decode b_M_readText 91 = .ok (.aload_n 0, 1) := by decide +kernel
theorem d_M_readText_92 : decode b_M_readText 92 = .ok (.getfield 200, 3) := by decide +kernel
theorem d_M_readText_95 : decode b_M_readText 95 = .ok (.ifCond .lt 8, 3) := by decide +kernel
theorem d_M_readText_98 : decode b_M_readText 98 = .ok (.aload_n 0, 1) := by decide +kernel
theorem d_M_readText_99 : decode b_M_readText 99 = .ok (.getfield 200, 3) := by decide +kernel
theorem d_M_readText_102 : decode b_M_readText 102 = .ok (.ireturn, 1) := by decide +kernel
theorem d_M_readText_103 : decode b_M_readText 103 = .ok (.iconst 0, 1) := by decide +kernel
theorem d_M_readText_104 : decode b_M_readText 104 = .ok (.istore_n 2, 1) := by decide +kernel
theorem d_M_readText_105 : decode b_M_readText 105 = .ok (.iload_n 2, 1) := by decide +kernel
theorem d_M_readText_106 : decode b_M_readText 106 = .ok (.aload_n 0, 1) := by decide +kernel
theorem d_M_readText_107 : decode b_M_readText 107 = .ok (.getfield 203, 3) := by decide +kernel
theorem d_M_readText_110 : decode b_M_readText 110 = .ok (.if_icmp .ge 53, 3) := by decide +kernel
theorem d_M_readText_113 : decode b_M_readText 113 = .ok (.aload_n 0, 1) := by decide +kernel
theorem d_M_readText_114 : decode b_M_readText 114 = .ok (.getfield 63, 3) := by decide +kernel
theorem d_M_readText_117 : decode b_M_readText 117 = .ok (.sipush 130, 3) := by decide +kernel
theorem d_M_readText_120 : decode b_M_readText 120 = .ok (.iload_n 1, 1) := by decide +kernel
theorem d_M_readText_121 : decode b_M_readText 121 = .ok (.imul, 1) := by decide +kernel
theorem d_M_readText_122 : decode b_M_readText 122 = .ok (.iload_n 2, 1) := by decide +kernel
theorem d_M_readText_123 : decode b_M_readText 123 = .ok (.iadd, 1) := by decide +kernel
theorem d_M_readText_124 : decode b_M_readText 124 = .ok (.aload_n 0, 1) := by decide +kernel
theorem d_M_readText_125 : decode b_M_readText 125 = .ok (.getfield 63, 3) := by decide +kernel
theorem d_M_readText_128 : decode b_M_readText 128 = .ok (.sipush 130, 3) := by decide +kernel
theorem d_M_readText_131 : decode b_M_readText 131 = .ok (.iload_n 2, 1) := by decide +kernel
theorem d_M_readText_132 : decode b_M_readText 132 = .ok (.iadd, 1) := by decide +kernel
theorem d_M_readText_133 : decode b_M_readText 133 = .ok (.baload, 1) := by decide +kernel
theorem d_M_readText_134 : decode b_M_readText 134 = .ok (.bastore, 1) := by decide +kernel
theorem d_M_readText_135 : decode b_M_readText 135 = .ok (.aload_n 0, 1) := by decide +kernel
theorem d_M_readText_136 : decode b_M_readText 136 = .ok (.getfield 66, 3) := by decide +kernel
theorem d_M_readText_139 : decode b_M_readText 139 = .ok (.sipush 130, 3) := by decide +kernel
theorem d_M_readText_142 : decode b_M_readText 142 = .ok (.iload_n 1, 1) := by decide +kernel
theorem d_M_readText_143 : decode b_M_readText 143 = .ok (.imul, 1) := by decide +kernel
theorem d_M_readText_144 : decode b_M_readText 144 = .ok (.iload_n 2, 1) := by decide +kernel
theorem d_M_readText_145 : decode b_M_readText 145 = .ok (.iadd, 1) := by decide +kernel
theorem d_M_readText_146 : decode b_M_readText 146 = .ok (.aload_n 0, 1) := by decide +kernel
theorem d_M_readText_147 : decode b_M_readText 147 = .ok (.getfield 66, 3) := by decide +kernel
theorem d_M_readText_150 : decode b_M_readText 150 = .ok (.sipush 130, 3) := by decide +kernel
theorem d_M_readText_153 : decode b_M_readText 153 = .ok (.iload_n 2, 1) := by decide +kernel
theorem d_M_readText_154 : decode b_M_readText 154 = .ok (.iadd, 1) := by decide +kernel
theorem d_M_readText_155 : decode b_M_readText 155 = .ok (.iaload, 1) := by decide +kernel
theorem d_M_readText_156 : decode b_M_readText 156 = .ok (.iastore, 1) := by decide +kernel
theorem d_M_readText_157 : decode b_M_readText 157 = .ok (.iinc 2 1, 3) := by decide +kernel
theorem d_M_readText_160 : decode b_M_readText 160 = .ok (.goto (-55), 3) := by decide +kernel
theorem d_M_readText_163 : decode b_M_readText 163 = .ok (.aload_n 0, 1) := by decide +kernel
theorem d_M_readText_164 : decode b_M_readText 164 = .ok (.getfield 69, 3) := by decide +kernel
theorem d_M_readText_167 : decode b_M_readText 167 = .ok (.iload_n 1, 1) := by decide +kernel
theorem d_M_readText_168 : decode b_M_readText 168 = .ok (.aload_n 0, 1) := by decide +kernel
theorem d_M_readText_169 : decode b_M_readText 169 = .ok (.getfield 69, 3) := by decide +kernel
theorem d_M_readText_172 : decode b_M_readText 172 = .ok (.iconst 1, 1) := by decide +kernel
theorem d_M_readText_173 : decode b_M_readText 173 = .ok (.iaload, 1) := by decide +kernel
theorem d_M_readText_174 : decode b_M_readText 174 = .ok (.iastore, 1) := by decide +kernel
theorem d_M_readText_175 : decode b_M_readText 175 = .ok (.iconst 0, 1) := by decide +kernel
theorem d_M_readText_176 : decode b_M_readText 176 = .ok (.istore_n 2, 1) := by decide +kernel
theorem d_M_readText_177 : decode b_M_readText 177 = .ok (.iload_n 2, 1) := by decide +kernel
theorem d_M_readText_178 : decode b_M_readText 178 = .ok (.aload_n 0, 1) := by decide +kernel
theorem d_M_readText_179 : decode b_M_readText 179 = .ok (.getfield 69, 3) := by decide +kernel
theorem d_M_readText_182 : decode b_M_readText 182 = .ok (.iload_n 1, 1) := by decide +kernel
theorem d_M_readText_183 : decode b_M_readText 183 = .ok (.iaload, 1) := by decide +kernel
theorem d_M_readText_184 : decode b_M_readText 184 = .ok (.if_icmp .ge 49, 3) := by decide +kernel
theorem d_M_readText_187 : decode b_M_readText 187 = .ok (.aload_n 0, 1) := by decide +kernel
theorem d_M_readText_188 : decode b_M_readText 188 = .ok (.getfield 72, 3) := by decide +kernel
theorem d_M_readText_191 : decode b_M_readText 191 = .ok (.bipush 61, 2) := by decide +kernel
theorem d_M_readText_193 : decode b_M_readText 193 = .ok (.iload_n 1, 1) := by decide +kernel
theorem d_M_readText_194 : decode b_M_readText 194 = .ok (.imul, 1) := by decide +kernel
theorem d_M_readText_195 : decode b_M_readText 195 = .ok (.iload_n 2, 1) := by decide +kernel
theorem d_M_readText_196 : decode b_M_readText 196 = .ok (.iadd, 1) := by decide +kernel
theorem d_M_readText_197 : decode b_M_readText 197 = .ok (.aload_n 0, 1) := by decide +kernel
theorem d_M_readText_198 : decode b_M_readText 198 = .ok (.getfield 72, 3) := by decide +kernel
theorem d_M_readText_201 : decode b_M_readText 201 = .ok (.bipush 61, 2) := by decide +kernel
theorem d_M_readText_203 : decode b_M_readText 203 = .ok (.iload_n 2, 1) := by decide +kernel
theorem d_M_readText_204 : decode b_M_readText 204 = .ok (.iadd, 1) := by decide +kernel
theorem d_M_readText_205 : decode b_M_readText 205 = .ok (.saload, 1) := by decide +kernel
theorem d_M_readText_206 : decode b_M_readText 206 = .ok (.sastore, 1) := by decide +kernel
theorem d_M_readText_207 : decode b_M_readText 207 = .ok (.aload_n 0, 1) := by decide +kernel
theorem d_M_readText_208 : decode b_M_readText 208 = .ok (.getfield 76, 3) := by decide +kernel
theorem d_M_readText_211 : decode b_M_readText 211 = .ok (.bipush 61, 2) := by decide +kernel
theorem d_M_readText_213 : decode b_M_readText 213 = .ok (.iload_n 1, 1) := by decide +kernel
theorem d_M_readText_214 : decode b_M_readText 214 = .ok (.imul, 1) := by decide +kernel
theorem d_M_readText_215 : decode b_M_readText 215 = .ok (.iload_n 2, 1) := by decide +kernel
theorem d_M_readText_216 : decode b_M_readText 216 = .ok (.iadd, 1) := by decide +kernel
theorem d_M_readText_217 : decode b_M_readText 217 = .ok (.aload_n 0, 1) := by decide +kernel
theorem d_M_readText_218 : decode b_M_readText 218 = .ok (.getfield 76, 3) := by decide +kernel
theorem d_M_readText_221 : decode b_M_readText 221 = .ok (.bipush 61, 2) := by decide +kernel
theorem d_M_readText_223 : decode b_M_readText 223 = .ok (.iload_n 2, 1) := by decide +kernel
theorem d_M_readText_224 : decode b_M_readText 224 = .ok (.iadd, 1) := by decide +kernel
theorem d_M_readText_225 : decode b_M_readText 225 = .ok (.saload, 1) := by decide +kernel
theorem d_M_readText_226 : decode b_M_readText 226 = .ok (.sastore, 1) := by decide +kernel
theorem d_M_readText_227 : decode b_M_readText 227 = .ok (.iinc 2 1, 3) := by decide +kernel
theorem d_M_readText_230 : decode b_M_readText 230 = .ok (.goto (-53), 3) := by decide +kernel
theorem d_M_readText_233 : decode b_M_readText 233 = .ok (.iconst (-1), 1) := by decide +kernel
theorem d_M_readText_234 : decode b_M_readText 234 = .ok (.ireturn, 1) := by decide +kernel
theorem d_M_law_0 : decode b_M_law 0 = .ok (.aload_n 0, 1) := by decide +kernel
theorem d_M_law_1 : decode b_M_law 1 = .ok (.iconst 0, 1) := by decide +kernel
theorem d_M_law_2 : decode b_M_law 2 = .ok (.invokevirtual 258, 3) := by decide +kernel
theorem d_M_law_5 : decode b_M_law 5 = .ok (.istore_n 1, 1) := by decide +kernel
theorem d_M_law_6 : decode b_M_law 6 = .ok (.iload_n 1, 1) := by decide +kernel
theorem d_M_law_7 : decode b_M_law 7 = .ok (.ifCond .lt 8, 3) := by decide +kernel
theorem d_M_law_10 : decode b_M_law 10 = .ok (.bipush (-100), 2) := by decide +kernel
theorem d_M_law_12 : decode b_M_law 12 = .ok (.iload_n 1, 1) := by decide +kernel
theorem d_M_law_13 : decode b_M_law 13 = .ok (.isub, 1) := by decide +kernel
theorem d_M_law_14 : decode b_M_law 14 = .ok (.ireturn, 1) := by decide +kernel
theorem d_M_law_15 : decode b_M_law 15 = .ok (.aload_n 0, 1) := by decide +kernel
theorem d_M_law_16 : decode b_M_law 16 = .ok (.iconst 1, 1) := by decide +kernel
theorem d_M_law_17 : decode b_M_law 17 = .ok (.putfield 261, 3) := by decide +kernel
theorem d_M_law_20 : decode b_M_law 20 = .ok (.iconst 1, 1) := by decide +kernel
theorem d_M_law_21 : decode b_M_law 21 = .ok (.ireturn, 1) := by decide +kernel
theorem d_M_layLine_0 : decode b_M_layLine 0 = .ok (.aload_n 0, 1) := by decide +kernel
theorem d_M_layLine_1 : decode b_M_layLine 1 = .ok (.iconst 0, 1) := by decide +kernel
theorem d_M_layLine_2 : decode b_M_layLine 2 = .ok (.putfield 343, 3) := by decide +kernel
theorem d_M_layLine_5 : decode b_M_layLine 5 = .ok (.iconst 0, 1) := by decide +kernel
theorem d_M_layLine_6 : decode b_M_layLine 6 = .ok (.istore_n 2, 1) := by decide +kernel
theorem d_M_layLine_7 : decode b_M_layLine 7 = .ok (.iload_n 2, 1) := by decide +kernel
theorem d_M_layLine_8 : decode b_M_layLine 8 = .ok (.aload_n 0, 1) := by decide +kernel
theorem d_M_layLine_9 : decode b_M_layLine 9 = .ok (.getfield 150, 3) := by decide +kernel
theorem d_M_layLine_12 : decode b_M_layLine 12 = .ok (.if_icmp .ge 40, 3) := by decide +kernel
theorem d_M_layLine_15 : decode b_M_layLine 15 = .ok (.iload_n 1, 1) := by decide +kernel
theorem d_M_layLine_16 : decode b_M_layLine 16 = .ok (.iload_n 2, 1) := by decide +kernel
theorem d_M_layLine_17 : decode b_M_layLine 17 = .ok (.ishr, 1) := by decide +kernel
theorem d_M_layLine_18 : decode b_M_layLine 18 = .ok (.iconst 1, 1) := by decide +kernel
theorem d_M_layLine_19 : decode b_M_layLine 19 = .ok (.iand, 1) := by decide +kernel
theorem d_M_layLine_20 : decode b_M_layLine 20 = .ok (.ifCond .ne 6, 3) := by decide +kernel
theorem d_M_layLine_23 : decode b_M_layLine 23 = .ok (.goto 23, 3) := by decide +kernel
theorem d_M_layLine_26 : decode b_M_layLine 26 = .ok (.aload_n 0, 1) := by decide +kernel
theorem d_M_layLine_27 : decode b_M_layLine 27 = .ok (.getfield 100, 3) := by decide +kernel
theorem d_M_layLine_30 : decode b_M_layLine 30 = .ok (.aload_n 0, 1) := by decide +kernel
theorem d_M_layLine_31 : decode b_M_layLine 31 = .ok (.getfield 343, 3) := by decide +kernel
theorem d_M_layLine_34 : decode b_M_layLine 34 = .ok (.iload_n 2, 1) := by decide +kernel
theorem d_M_layLine_35 : decode b_M_layLine 35 = .ok (.iastore, 1) := by decide +kernel
theorem d_M_layLine_36 : decode b_M_layLine 36 = .ok (.aload_n 0, 1) := by decide +kernel
theorem d_M_layLine_37 : decode b_M_layLine 37 = .ok (.dup, 1) := by decide +kernel
theorem d_M_layLine_38 : decode b_M_layLine 38 = .ok (.getfield 343, 3) := by decide +kernel
theorem d_M_layLine_41 : decode b_M_layLine 41 = .ok (.iconst 1, 1) := by decide +kernel
theorem d_M_layLine_42 : decode b_M_layLine 42 = .ok (.iadd, 1) := by decide +kernel
theorem d_M_layLine_43 : decode b_M_layLine 43 = .ok (.putfield 343, 3) := by decide +kernel
theorem d_M_layLine_46 : decode b_M_layLine 46 = .ok (.iinc 2 1, 3) := by decide +kernel
theorem d_M_layLine_49 : decode b_M_layLine 49 = .ok (.goto (-42), 3) := by decide +kernel
theorem d_M_layLine_52 : decode b_M_layLine 52 = .ok (.return_, 1) := by decide +kernel
theorem d_M_led_0 : decode b_M_led 0 = .ok (.iload_n 1, 1) := by decide +kernel
theorem d_M_led_1 : decode b_M_led 1 = .ok (.iconst 0, 1) := by decide +kernel
theorem d_M_led_2 : decode b_M_led 2 = .ok (.iconst 4, 1) := by decide +kernel
theorem d_M_led_3 : decode b_M_led 3 = .ok (.invokestatic 153, 3) := by decide +kernel
theorem d_M_led_6 : decode b_M_led 6 = .ok (.ifCond .eq 12, 3) := by decide +kernel
theorem d_M_led_9 : decode b_M_led 9 = .ok (.aload_n 0, 1) := by decide +kernel
theorem d_M_led_10 : decode b_M_led 10 = .ok (.getfield 113, 3) := by decide +kernel
theorem d_M_led_13 : decode b_M_led 13 = .ok (.iload_n 1, 1) := by decide +kernel
theorem d_M_led_14 : decode b_M_led 14 = .ok (.iaload, 1) := by decide +kernel
theorem d_M_led_15 : decode b_M_led 15 = .ok (.goto 4, 3) := by decide +kernel
theorem d_M_led_18 : decode b_M_led 18 = .ok (.iconst (-1), 1) := by decide +kernel
theorem d_M_led_19 : decode b_M_led 19 = .ok (.ireturn, 1) := by decide +kernel
theorem d_M_line_0 : decode b_M_line 0 = .ok (.aload_n 0, 1) := by decide +kernel
theorem d_M_line_1 : decode b_M_line 1 = .ok (.iload_n 1, 1) := by decide +kernel
theorem d_M_line_2 : decode b_M_line 2 = .ok (.invokevirtual 289, 3) := by decide +kernel
theorem d_M_line_5 : decode b_M_line 5 = .ok (.ifCond .eq 26, 3) := by decide +kernel
theorem d_M_line_8 : decode b_M_line 8 = .ok (.iload_n 2, 1) := by decide +kernel
theorem d_M_line_9 : decode b_M_line 9 = .ok (.iconst (-1), 1) := by decide +kernel
theorem d_M_line_10 : decode b_M_line 10 = .ok (.aload_n 0, 1) := by decide +kernel
theorem d_M_line_11 : decode b_M_line 11 = .ok (.getfield 150, 3) := by decide +kernel
theorem d_M_line_14 : decode b_M_line 14 = .ok (.iconst 1, 1) := by decide +kernel
theorem d_M_line_15 : decode b_M_line 15 = .ok (.isub, 1) := by decide +kernel
theorem d_M_line_16 : decode b_M_line 16 = .ok (.invokestatic 153, 3) := by decide +kernel
theorem d_M_line_19 : decode b_M_line 19 = .ok (.ifCond .eq 12, 3) := by decide +kernel
theorem d_M_line_22 : decode b_M_line 22 = .ok (.iload_n 3, 1) := by decide +kernel
theorem d_M_line_23 : decode b_M_line 23 = .ok (.iconst 0, 1) := by decide +kernel
theorem d_M_line_24 : decode b_M_line 24 = .ok (.iconst 1, 1) := by decide +kernel
theorem d_M_line_25 : decode b_M_line 25 = .ok (.invokestatic 153, 3) := by decide +kernel
theorem d_M_line_28 : decode b_M_line 28 = .ok (.ifCond .ne 5, 3) := by decide +kernel
theorem d_M_line_31 : decode b_M_line 31 = .ok (.iconst (-1), 1) := by decide +kernel
theorem d_M_line_32 : decode b_M_line 32 = .ok (.ireturn, 1) := by decide +kernel
theorem d_M_line_33 : decode b_M_line 33 = .ok (.iload_n 2, 1) := by decide +kernel
theorem d_M_line_34 : decode b_M_line 34 = .ok (.ifCond .lt 14, 3) := by decide +kernel
theorem d_M_line_37 : decode b_M_line 37 = .ok (.iload_n 1, 1) := by decide +kernel
theorem d_M_line_38 : decode b_M_line 38 = .ok (.iload_n 2, 1) := by decide +kernel
theorem d_M_line_39 : decode b_M_line 39 = .ok (.ishr, 1) := by decide +kernel
theorem d_M_line_40 : decode b_M_line 40 = .ok (.iconst 1, 1) := by decide +kernel
theorem d_M_line_41 : decode b_M_line 41 = .ok (.iand, 1) := by decide +kernel
theorem d_M_line_42 : decode b_M_line 42 = .ok (.ifCond .ne 6, 3) := by decide +kernel
theorem d_M_line_45 : decode b_M_line 45 = .ok (.bipush (-2), 2) := by decide +kernel
theorem d_M_line_47 : decode b_M_line 47 = .ok (.ireturn, 1) := by decide +kernel
theorem d_M_line_48 : decode b_M_line 48 = .ok (.aload_n 0, 1) := by decide +kernel
theorem d_M_line_49 : decode b_M_line 49 = .ok (.iload_n 1, 1) := by decide +kernel
theorem d_M_line_50 : decode b_M_line 50 = .ok (.invokevirtual 352, 3) := by decide +kernel
theorem d_M_line_53 : decode b_M_line 53 = .ok (.aload_n 0, 1) := by decide +kernel
theorem d_M_line_54 : decode b_M_line 54 = .ok (.invokevirtual 356, 3) := by decide +kernel
theorem d_M_line_57 : decode b_M_line 57 = .ok (.iload_n 2, 1) := by decide +kernel
theorem d_M_line_58 : decode b_M_line 58 = .ok (.ifCond .ge 10, 3) := by decide +kernel
theorem d_M_line_61 : decode b_M_line 61 = .ok (.aload_n 0, 1) := by decide +kernel
theorem d_M_line_62 : decode b_M_line 62 = .ok (.invokevirtual 359, 3) := by decide +kernel
theorem d_M_line_65 : decode b_M_line 65 = .ok (.goto 22, 3) := by decide +kernel
theorem d_M_line_68 : decode b_M_line 68 = .ok (.iload_n 3, 1) := by decide +kernel
theorem d_M_line_69 : decode b_M_line 69 = .ok (.ifCond .ne 12, 3) := by decide +kernel
theorem d_M_line_72 : decode b_M_line 72 = .ok (.aload_n 0, 1) := by decide +kernel
theorem d_M_line_73 : decode b_M_line 73 = .ok (.getfield 94, 3) := by decide +kernel
theorem d_M_line_76 : decode b_M_line 76 = .ok (.iload_n 2, 1) := by decide +kernel
theorem d_M_line_77 : decode b_M_line 77 = .ok (.iaload, 1) := by decide +kernel
theorem d_M_line_78 : decode b_M_line 78 = .ok (.goto 9, 3) := by decide +kernel
theorem d_M_line_81 : decode b_M_line 81 = .ok (.aload_n 0, 1) := by decide +kernel
theorem d_M_line_82 : decode b_M_line 82 = .ok (.getfield 97, 3) := by decide +kernel
theorem d_M_line_85 : decode b_M_line 85 = .ok (.iload_n 2, 1) := by decide +kernel
theorem d_M_line_86 : decode b_M_line 86 = .ok (.iaload, 1) := by decide +kernel
theorem d_M_line_87 : decode b_M_line 87 = .ok (.istore 4, 2) := by decide +kernel
theorem d_M_line_89 : decode b_M_line 89 = .ok (.iload 4, 2) := by decide +kernel
theorem d_M_line_91 : decode b_M_line 91 = .ok (.ifCond .ge 8, 3) := by decide +kernel
theorem d_M_line_94 : decode b_M_line 94 = .ok (.bipush (-2), 2) := by decide +kernel
theorem d_M_line_96 : decode b_M_line 96 = .ok (.goto 5, 3) := by decide +kernel
theorem d_M_line_99 : decode b_M_line 99 = .ok (.iload 4, 2) := by decide +kernel
theorem d_M_line_101 : decode b_M_line 101 = .ok (.ireturn, 1) := by decide +kernel
theorem d_M_mayBe_0 : decode b_M_mayBe 0 = .ok (.iload_n 0, 1) := by decide +kernel
theorem d_M_mayBe_1 : decode b_M_mayBe 1 = .ok (.tableswitch 142 0 11 #[63, 70, 78, 86, 142, 94, 102, 110, 118, 126, 142, 134], 63) := by decide +kernel
theorem d_M_mayBe_64 : decode b_M_mayBe 64 = .ok (.iload_n 1, 1) := by decide +kernel
theorem d_M_mayBe_65 : decode b_M_mayBe 65 = .ok (.iconst 0, 1) := by decide +kernel
theorem d_M_mayBe_66 : decode b_M_mayBe 66 = .ok (.iconst 3, 1) := by decide +kernel
theorem d_M_mayBe_67 : decode b_M_mayBe 67 = .ok (.invokestatic 153, 3) := by decide +kernel
theorem d_M_mayBe_70 : decode b_M_mayBe 70 = .ok (.ireturn, 1) := by decide +kernel
theorem d_M_mayBe_71 : decode b_M_mayBe 71 = .ok (.iload_n 1, 1) := by decide +kernel
theorem d_M_mayBe_72 : decode b_M_mayBe 72 = .ok (.iconst 0, 1) := by decide +kernel
theorem d_M_mayBe_73 : decode b_M_mayBe 73 = .ok (.bipush 9, 2) := by decide +kernel
theorem d_M_mayBe_75 : decode b_M_mayBe 75 = .ok (.invokestatic 153, 3) := by decide +kernel
theorem d_M_mayBe_78 : decode b_M_mayBe 78 = .ok (.ireturn, 1) := by decide +kernel
theorem d_M_mayBe_79 : decode b_M_mayBe 79 = .ok (.iload_n 1, 1) := by decide +kernel
theorem d_M_mayBe_80 : decode b_M_mayBe 80 = .ok (.iconst 0, 1) := by decide +kernel
theorem d_M_mayBe_81 : decode b_M_mayBe 81 = .ok (.bipush 99, 2) := by decide +kernel
theorem d_M_mayBe_83 : decode b_M_mayBe 83 = .ok (.invokestatic 153, 3) := by decide +kernel
theorem d_M_mayBe_86 : decode b_M_mayBe 86 = .ok (.ireturn, 1) := by decide +kernel
theorem d_M_mayBe_87 : decode b_M_mayBe 87 = .ok (.iload_n 1, 1) := by decide +kernel
theorem d_M_mayBe_88 : decode b_M_mayBe 88 = .ok (.iconst 3, 1) := by decide +kernel
theorem d_M_mayBe_89 : decode b_M_mayBe 89 = .ok (.bipush 9, 2) := by decide +kernel
theorem d_M_mayBe_91 : decode b_M_mayBe 91 = .ok (.invokestatic 153, 3) := by decide +kernel
theorem d_M_mayBe_94 : decode b_M_mayBe 94 = .ok (.ireturn, 1) := by decide +kernel
theorem d_M_mayBe_95 : decode b_M_mayBe 95 = .ok (.iload_n 1, 1) := by decide +kernel
theorem d_M_mayBe_96 : decode b_M_mayBe 96 = .ok (.iconst 1, 1) := by decide +kernel
theorem d_M_mayBe_97 : decode b_M_mayBe 97 = .ok (.bipush 99, 2) := by decide +kernel
theorem d_M_mayBe_99 : decode b_M_mayBe 99 = .ok (.invokestatic 153, 3) := by decide +kernel
theorem d_M_mayBe_102 : decode b_M_mayBe 102 = .ok (.ireturn, 1) := by decide +kernel
theorem d_M_mayBe_103 : decode b_M_mayBe 103 = .ok (.iload_n 1, 1) := by decide +kernel
theorem d_M_mayBe_104 : decode b_M_mayBe 104 = .ok (.iconst 0, 1) := by decide +kernel
theorem d_M_mayBe_105 : decode b_M_mayBe 105 = .ok (.bipush 8, 2) := by decide +kernel
theorem d_M_mayBe_107 : decode b_M_mayBe 107 = .ok (.invokestatic 153, 3) := by decide +kernel
theorem d_M_mayBe_110 : decode b_M_mayBe 110 = .ok (.ireturn, 1) := by decide +kernel
theorem d_M_mayBe_111 : decode b_M_mayBe 111 = .ok (.iload_n 1, 1) := by decide +kernel
theorem d_M_mayBe_112 : decode b_M_mayBe 112 = .ok (.iconst 0, 1) := by decide +kernel
theorem d_M_mayBe_113 : decode b_M_mayBe 113 = .ok (.bipush 30, 2) := by decide +kernel
theorem d_M_mayBe_115 : decode b_M_mayBe 115 = .ok (.invokestatic 153, 3) := by decide +kernel
theorem d_M_mayBe_118 : decode b_M_mayBe 118 = .ok (.ireturn, 1) := by decide +kernel
theorem d_M_mayBe_119 : decode b_M_mayBe 119 = .ok (.iload_n 1, 1) := by decide +kernel
theorem d_M_mayBe_120 : decode b_M_mayBe 120 = .ok (.iconst 1, 1) := by decide +kernel
theorem d_M_mayBe_121 : decode b_M_mayBe 121 = .ok (.bipush 60, 2) := by decide +kernel
theorem d_M_mayBe_123 : decode b_M_mayBe 123 = .ok (.invokestatic 153, 3) := by decide +kernel
theorem d_M_mayBe_126 : decode b_M_mayBe 126 = .ok (.ireturn, 1) := by decide +kernel
theorem d_M_mayBe_127 : decode b_M_mayBe 127 = .ok (.iload_n 1, 1) := by decide +kernel
theorem d_M_mayBe_128 : decode b_M_mayBe 128 = .ok (.iconst 0, 1) := by decide +kernel
theorem d_M_mayBe_129 : decode b_M_mayBe 129 = .ok (.bipush 99, 2) := by decide +kernel
theorem d_M_mayBe_131 : decode b_M_mayBe 131 = .ok (.invokestatic 153, 3) := by decide +kernel
theorem d_M_mayBe_134 : decode b_M_mayBe 134 = .ok (.ireturn, 1) := by decide +kernel
theorem d_M_mayBe_135 : decode b_M_mayBe 135 = .ok (.iload_n 1, 1) := by decide +kernel
theorem d_M_mayBe_136 : decode b_M_mayBe 136 = .ok (.iconst 1, 1) := by decide +kernel
theorem d_M_mayBe_137 : decode b_M_mayBe 137 = .ok (.bipush 60, 2) := by decide +kernel
theorem d_M_mayBe_139 : decode b_M_mayBe 139 = .ok (.invokestatic 153, 3) := by decide +kernel
theorem d_M_mayBe_142 : decode b_M_mayBe 142 = .ok (.ireturn, 1) := by decide +kernel
theorem d_M_mayBe_143 : decode b_M_mayBe 143 = .ok (.iload_n 1, 1) := by decide +kernel
theorem d_M_mayBe_144 : decode b_M_mayBe 144 = .ok (.iconst 1, 1) := by decide +kernel
theorem d_M_mayBe_145 : decode b_M_mayBe 145 = .ok (.bipush 9, 2) := by decide +kernel
theorem d_M_mayBe_147 : decode b_M_mayBe 147 = .ok (.invokestatic 153, 3) := by decide +kernel
theorem d_M_mayBe_150 : decode b_M_mayBe 150 = .ok (.ireturn, 1) := by decide +kernel
theorem d_M_mend_0 : decode b_M_mend 0 = .ok (.aload_n 0, 1) := by decide +kernel
theorem d_M_mend_1 : decode b_M_mend 1 = .ok (.iload_n 1, 1) := by decide +kernel
theorem d_M_mend_2 : decode b_M_mend 2 = .ok (.iload_n 2, 1) := by decide +kernel
theorem d_M_mend_3 : decode b_M_mend 3 = .ok (.invokevirtual 184, 3) := by decide +kernel
theorem d_M_mend_6 : decode b_M_mend 6 = .ok (.ifCond .eq 21, 3) := by decide +kernel
theorem d_M_mend_9 : decode b_M_mend 9 = .ok (.iload_n 2, 1) := by decide +kernel
theorem d_M_mend_10 : decode b_M_mend 10 = .ok (.iload_n 3, 1) := by decide +kernel
theorem d_M_mend_11 : decode b_M_mend 11 = .ok (.invokestatic 188, 3) := by decide +kernel
theorem d_M_mend_14 : decode b_M_mend 14 = .ok (.ifCond .eq 13, 3) := by decide +kernel
theorem d_M_mend_17 : decode b_M_mend 17 = .ok (.aload_n 0, 1) := by decide +kernel
theorem d_M_mend_18 : decode b_M_mend 18 = .ok (.iload_n 2, 1) := by decide +kernel
theorem d_M_mend_19 : decode b_M_mend 19 = .ok (.iload_n 1, 1) := by decide +kernel
theorem d_M_mend_20 : decode b_M_mend 20 = .ok (.iload_n 3, 1) := by decide +kernel
theorem d_M_mend_21 : decode b_M_mend 21 = .ok (.invokevirtual 191, 3) := by decide +kernel
theorem d_M_mend_24 : decode b_M_mend 24 = .ok (.goto 4, 3) := by decide +kernel
theorem d_M_mend_27 : decode b_M_mend 27 = .ok (.iconst (-1), 1) := by decide +kernel
theorem d_M_mend_28 : decode b_M_mend 28 = .ok (.ireturn, 1) := by decide +kernel
theorem d_M_of_0 : decode b_M_of 0 = .ok (.iload_n 2, 1) := by decide +kernel
theorem d_M_of_1 : decode b_M_of 1 = .ok (.bipush 12, 2) := by decide +kernel
theorem d_M_of_3 : decode b_M_of 3 = .ok (.bipush 13, 2) := by decide +kernel
theorem d_M_of_5 : decode b_M_of 5 = .ok (.invokestatic 153, 3) := by decide +kernel
theorem d_M_of_8 : decode b_M_of 8 = .ok (.ifCond .eq 45, 3) := by decide +kernel
theorem d_M_of_11 : decode b_M_of 11 = .ok (.aload_n 0, 1) := by decide +kernel
theorem d_M_of_12 : decode b_M_of 12 = .ok (.iload_n 1, 1) := by decide +kernel
theorem d_M_of_13 : decode b_M_of 13 = .ok (.invokevirtual 181, 3) := by decide +kernel
theorem d_M_of_16 : decode b_M_of 16 = .ok (.ifCond .ne 7, 3) := by decide +kernel
theorem d_M_of_19 : decode b_M_of 19 = .ok (.iconst (-1), 1) := by decide +kernel
theorem d_M_of_20 : decode b_M_of 20 = .ok (.goto 32, 3) := by decide +kernel
theorem d_M_of_23 : decode b_M_of 23 = .ok (.iload_n 2, 1) := by decide +kernel
theorem d_M_of_24 : decode b_M_of 24 = .ok (.bipush 12, 2) := by decide +kernel
theorem d_M_of_26 : decode b_M_of 26 = .ok (.if_icmp .ne 12, 3) := by decide +kernel
theorem d_M_of_29 : decode b_M_of 29 = .ok (.aload_n 0, 1) := by decide +kernel
theorem d_M_of_30 : decode b_M_of 30 = .ok (.getfield 106, 3) := by decide +kernel
theorem d_M_of_33 : decode b_M_of 33 = .ok (.iload_n 1, 1) := by decide +kernel
theorem d_M_of_34 : decode b_M_of 34 = .ok (.iaload, 1) := by decide +kernel
theorem d_M_of_35 : decode b_M_of 35 = .ok (.goto 17, 3) := by decide +kernel
theorem d_M_of_38 : decode b_M_of 38 = .ok (.aload_n 0, 1) := by decide +kernel
theorem d_M_of_39 : decode b_M_of 39 = .ok (.getfield 109, 3) := by decide +kernel
theorem d_M_of_42 : decode b_M_of 42 = .ok (.iload_n 1, 1) := by decide +kernel
theorem d_M_of_43 : decode b_M_of 43 = .ok (.baload, 1) := by decide +kernel
theorem d_M_of_44 : decode b_M_of 44 = .ok (.ifCond .eq 7, 3) := by decide +kernel
theorem d_M_of_47 : decode b_M_of 47 = .ok (.iconst 1, 1) := by decide +kernel
theorem d_M_of_48 : decode b_M_of 48 = .ok (.goto 4, 3) := by decide +kernel
theorem d_M_of_51 : decode b_M_of 51 = .ok (.iconst 0, 1) := by decide +kernel
theorem d_M_of_52 : decode b_M_of 52 = .ok (.ireturn, 1) := by decide +kernel
theorem d_M_of_53 : decode b_M_of 53 = .ok (.aload_n 0, 1) := by decide +kernel
theorem d_M_of_54 : decode b_M_of 54 = .ok (.iload_n 1, 1) := by decide +kernel
theorem d_M_of_55 : decode b_M_of 55 = .ok (.iload_n 2, 1) := by decide +kernel
theorem d_M_of_56 : decode b_M_of 56 = .ok (.invokevirtual 184, 3) := by decide +kernel
theorem d_M_of_59 : decode b_M_of 59 = .ok (.ifCond .eq 12, 3) := by decide +kernel
theorem d_M_of_62 : decode b_M_of 62 = .ok (.aload_n 0, 1) := by decide +kernel
theorem d_M_of_63 : decode b_M_of 63 = .ok (.iload_n 2, 1) := by decide +kernel
theorem d_M_of_64 : decode b_M_of 64 = .ok (.iload_n 1, 1) := by decide +kernel
theorem d_M_of_65 : decode b_M_of 65 = .ok (.invokevirtual 167, 3) := by decide +kernel
theorem d_M_of_68 : decode b_M_of 68 = .ok (.goto 4, 3) := by decide +kernel
theorem d_M_of_71 : decode b_M_of 71 = .ok (.iconst (-1), 1) := by decide +kernel
theorem d_M_of_72 : decode b_M_of 72 = .ok (.ireturn, 1) := by decide +kernel
theorem d_M_order_0 : decode b_M_order 0 = .ok (.aload_n 0, 1) := by decide +kernel
theorem d_M_order_1 : decode b_M_order 1 = .ok (.iload_n 1, 1) := by decide +kernel
theorem d_M_order_2 : decode b_M_order 2 = .ok (.invokevirtual 289, 3) := by decide +kernel
theorem d_M_order_5 : decode b_M_order 5 = .ok (.ifCond .eq 8, 3) := by decide +kernel
theorem d_M_order_8 : decode b_M_order 8 = .ok (.iload_n 2, 1) := by decide +kernel
theorem d_M_order_9 : decode b_M_order 9 = .ok (.iconst (-1), 1) := by decide +kernel
theorem d_M_order_10 : decode b_M_order 10 = .ok (.if_icmp .ge 5, 3) := by decide +kernel
theorem d_M_order_13 : decode b_M_order 13 = .ok (.iconst (-1), 1) := by decide +kernel
theorem d_M_order_14 : decode b_M_order 14 = .ok (.ireturn, 1) := by decide +kernel
theorem d_M_order_15 : decode b_M_order 15 = .ok (.iload_n 1, 1) := by decide +kernel
theorem d_M_order_16 : decode b_M_order 16 = .ok (.invokestatic 318, 3) := by decide +kernel
theorem d_M_order_19 : decode b_M_order 19 = .ok (.bipush 6, 2) := by decide +kernel
theorem d_M_order_21 : decode b_M_order 21 = .ok (.if_icmp .le 6, 3) := by decide +kernel
theorem d_M_order_24 : decode b_M_order 24 = .ok (.bipush (-5), 2) := by decide +kernel
theorem d_M_order_26 : decode b_M_order 26 = .ok (.ireturn, 1) := by decide +kernel
theorem d_M_order_27 : decode b_M_order 27 = .ok (.aload_n 0, 1) := by decide +kernel
theorem d_M_order_28 : decode b_M_order 28 = .ok (.iconst (-1), 1) := by decide +kernel
theorem d_M_order_29 : decode b_M_order 29 = .ok (.putfield 362, 3) := by decide +kernel
theorem d_M_order_32 : decode b_M_order 32 = .ok (.aload_n 0, 1) := by decide +kernel
theorem d_M_order_33 : decode b_M_order 33 = .ok (.iconst 0, 1) := by decide +kernel
theorem d_M_order_34 : decode b_M_order 34 = .ok (.putfield 343, 3) := by decide +kernel
theorem d_M_order_37 : decode b_M_order 37 = .ok (.aload_n 0, 1) := by decide +kernel
theorem d_M_order_38 : decode b_M_order 38 = .ok (.iload_n 1, 1) := by decide +kernel
theorem d_M_order_39 : decode b_M_order 39 = .ok (.iconst 0, 1) := by decide +kernel
theorem d_M_order_40 : decode b_M_order 40 = .ok (.invokevirtual 365, 3) := by decide +kernel
theorem d_M_order_43 : decode b_M_order 43 = .ok (.aload_n 0, 1) := by decide +kernel
theorem d_M_order_44 : decode b_M_order 44 = .ok (.getfield 362, 3) := by decide +kernel
theorem d_M_order_47 : decode b_M_order 47 = .ok (.ifCond .lt 11, 3) := by decide +kernel
theorem d_M_order_50 : decode b_M_order 50 = .ok (.iload_n 2, 1) := by decide +kernel
theorem d_M_order_51 : decode b_M_order 51 = .ok (.iload_n 1, 1) := by decide +kernel
theorem d_M_order_52 : decode b_M_order 52 = .ok (.invokestatic 318, 3) := by decide +kernel
theorem d_M_order_55 : decode b_M_order 55 = .ok (.if_icmp .lt 6, 3) := by decide +kernel
theorem d_M_order_58 : decode b_M_order 58 = .ok (.bipush (-2), 2) := by decide +kernel
theorem d_M_order_60 : decode b_M_order 60 = .ok (.ireturn, 1) := by decide +kernel
theorem d_M_order_61 : decode b_M_order 61 = .ok (.iload_n 2, 1) := by decide +kernel
theorem d_M_order_62 : decode b_M_order 62 = .ok (.ifCond .ge 10, 3) := by decide +kernel
theorem d_M_order_65 : decode b_M_order 65 = .ok (.aload_n 0, 1) := by decide +kernel
theorem d_M_order_66 : decode b_M_order 66 = .ok (.getfield 362, 3) := by decide +kernel
theorem d_M_order_69 : decode b_M_order 69 = .ok (.goto 9, 3) := by decide +kernel
theorem d_M_order_72 : decode b_M_order 72 = .ok (.aload_n 0, 1) := by decide +kernel
theorem d_M_order_73 : decode b_M_order 73 = .ok (.getfield 103, 3) := by decide +kernel
theorem d_M_order_76 : decode b_M_order 76 = .ok (.iload_n 2, 1) := by decide +kernel
theorem d_M_order_77 : decode b_M_order 77 = .ok (.iaload, 1) := by decide +kernel
theorem d_M_order_78 : decode b_M_order 78 = .ok (.ireturn, 1) := by decide +kernel
theorem d_M_put_0 : decode b_M_put 0 = .ok (.aload_n 0, 1) := by decide +kernel
theorem d_M_put_1 : decode b_M_put 1 = .ok (.iload_n 1, 1) := by decide +kernel
theorem d_M_put_2 : decode b_M_put 2 = .ok (.iload_n 2, 1) := by decide +kernel
theorem d_M_put_3 : decode b_M_put 3 = .ok (.invokevirtual 430, 3) := by decide +kernel
theorem d_M_put_6 : decode b_M_put 6 = .ok (.istore 5, 2) := by decide +kernel
theorem d_M_put_8 : decode b_M_put 8 = .ok (.iload 5, 2) := by decide +kernel
theorem d_M_put_10 : decode b_M_put 10 = .ok (.ifCond .ge 6, 3) := by decide +kernel
theorem d_M_put_13 : decode b_M_put 13 = .ok (.iload 5, 2) := by decide +kernel
theorem d_M_put_15 : decode b_M_put 15 = .ok (.ireturn, 1) := by decide +kernel
theorem d_M_put_16 : decode b_M_put 16 = .ok (.bipush (-2), 2) := by decide +kernel
theorem d_M_put_18 : decode b_M_put 18 = .ok (.aload_n 0, 1) := by decide +kernel
theorem d_M_put_19 : decode b_M_put 19 = .ok (.getfield 134, 3) := by decide +kernel
theorem d_M_put_22 : decode b_M_put 22 = .ok (.iload_n 1, 1) := by decide +kernel
theorem d_M_put_23 : decode b_M_put 23 = .ok (.iaload, 1) := by decide +kernel
theorem d_M_put_24 : decode b_M_put 24 = .ok (.isub, 1) := by decide +kernel
theorem d_M_put_25 : decode b_M_put 25 = .ok (.istore 6, 2) := by decide +kernel
theorem d_M_put_27 : decode b_M_put 27 = .ok (.aload_n 0, 1) := by decide +kernel
theorem d_M_put_28 : decode b_M_put 28 = .ok (.getfield 140, 3) := by decide +kernel
theorem d_M_put_31 : decode b_M_put 31 = .ok (.bipush 60, 2) := by decide +kernel
theorem d_M_put_33 : decode b_M_put 33 = .ok (.iload_n 1, 1) := by decide +kernel
theorem d_M_put_34 : decode b_M_put 34 = .ok (.imul, 1) := by decide +kernel
theorem d_M_put_35 : decode b_M_put 35 = .ok (.iload_n 2, 1) := by decide +kernel
theorem d_M_put_36 : decode b_M_put 36 = .ok (.iadd, 1) := by decide +kernel
theorem d_M_put_37 : decode b_M_put 37 = .ok (.iload 6, 2) := by decide +kernel
theorem d_M_put_39 : decode b_M_put 39 = .ok (.ifCond .ne 10, 3) := by decide +kernel
theorem d_M_put_42 : decode b_M_put 42 = .ok (.lload_n 3, 1) := by decide +kernel
theorem d_M_put_43 : decode b_M_put 43 = .ok (.l2i, 1) := by decide +kernel
theorem d_M_put_44 : decode b_M_put 44 = .ok (.i2b, 1) := by decide +kernel
theorem d_M_put_45 : decode b_M_put 45 = .ok (.i2l, 1) := by decide +kernel
theorem d_M_put_46 : decode b_M_put 46 = .ok (.goto 49, 3) := by decide +kernel
theorem d_M_put_49 : decode b_M_put 49 = .ok (.iload 6, 2) := by decide +kernel
theorem d_M_put_51 : decode b_M_put 51 = .ok (.iconst 1, 1) := by decide +kernel
theorem d_M_put_52 : decode b_M_put 52 = .ok (.if_icmp .ne 10, 3) := by decide +kernel
theorem d_M_put_55 : decode b_M_put 55 = .ok (.lload_n 3, 1) := by decide +kernel
theorem d_M_put_56 : decode b_M_put 56 = .ok (.l2i, 1) := by decide +kernel
theorem d_M_put_57 : decode b_M_put 57 = .ok (.i2s, 1) := by decide +kernel
theorem d_M_put_58 : decode b_M_put 58 = .ok (.i2l, 1) := by decide +kernel
theorem d_M_put_59 : decode b_M_put 59 = .ok (.goto 36, 3) := by decide +kernel
theorem d_M_put_62 : decode b_M_put 62 = .ok (.iload 6, 2) := by decide +kernel
theorem d_M_put_64 : decode b_M_put 64 = .ok (.iconst 2, 1) := by decide +kernel
theorem d_M_put_65 : decode b_M_put 65 = .ok (.if_icmp .ne 9, 3) := by decide +kernel
theorem d_M_put_68 : decode b_M_put 68 = .ok (.lload_n 3, 1) := by decide +kernel
theorem d_M_put_69 : decode b_M_put 69 = .ok (.l2i, 1) := by decide +kernel
theorem d_M_put_70 : decode b_M_put 70 = .ok (.i2l, 1) := by decide +kernel
theorem d_M_put_71 : decode b_M_put 71 = .ok (.goto 24, 3) := by decide +kernel
theorem d_M_put_74 : decode b_M_put 74 = .ok (.iload 6, 2) := by decide +kernel
theorem d_M_put_76 : decode b_M_put 76 = .ok (.iconst 3, 1) := by decide +kernel
theorem d_M_put_77 : decode b_M_put 77 = .ok (.if_icmp .ne 7, 3) := by decide +kernel
theorem d_M_put_80 : decode b_M_put 80 = .ok (.lload_n 3, 1) := by decide +kernel
theorem d_M_put_81 : decode b_M_put 81 = .ok (.goto 14, 3) := by decide +kernel
theorem d_M_put_84 : decode b_M_put 84 = .ok (.lload_n 3, 1) := by decide +kernel
theorem d_M_put_85 : decode b_M_put 85 = .ok (.lconst 0, 1) := by decide +kernel
theorem d_M_put_86 : decode b_M_put 86 = .ok (.lcmp, 1) := by decide +kernel
theorem d_M_put_87 : decode b_M_put 87 = .ok (.ifCond .eq 7, 3) := by decide +kernel
theorem d_M_put_90 : decode b_M_put 90 = .ok (.lconst 1, 1) := by decide +kernel
theorem d_M_put_91 : decode b_M_put 91 = .ok (.goto 4, 3) := by decide +kernel
theorem d_M_put_94 : decode b_M_put 94 = .ok (.lconst 0, 1) := by decide +kernel
theorem d_M_put_95 : decode b_M_put 95 = .ok (.lastore, 1) := by decide +kernel
theorem d_M_put_96 : decode b_M_put 96 = .ok (.iconst 1, 1) := by decide +kernel
theorem d_M_put_97 : decode b_M_put 97 = .ok (.ireturn, 1) := by decide +kernel
theorem d_M_rain_0 : decode b_M_rain 0 = .ok (.aload_n 0, 1) := by decide +kernel
theorem d_M_rain_1 : decode b_M_rain 1 = .ok (.iload_n 1, 1) := by decide +kernel
theorem d_M_rain_2 : decode b_M_rain 2 = .ok (.invokevirtual 289, 3) := by decide +kernel
theorem d_M_rain_5 : decode b_M_rain 5 = .ok (.ifCond .eq 14, 3) := by decide +kernel
theorem d_M_rain_8 : decode b_M_rain 8 = .ok (.iload_n 2, 1) := by decide +kernel
theorem d_M_rain_9 : decode b_M_rain 9 = .ok (.iconst 0, 1) := by decide +kernel
theorem d_M_rain_10 : decode b_M_rain 10 = .ok (.sipush 999, 3) := by decide +kernel
theorem d_M_rain_13 : decode b_M_rain 13 = .ok (.invokestatic 153, 3) := by decide +kernel
theorem d_M_rain_16 : decode b_M_rain 16 = .ok (.ifCond .ne 5, 3) := by decide +kernel
theorem d_M_rain_19 : decode b_M_rain 19 = .ok (.iconst (-1), 1) := by decide +kernel
theorem d_M_rain_20 : decode b_M_rain 20 = .ok (.ireturn, 1) := by decide +kernel
theorem d_M_rain_21 : decode b_M_rain 21 = .ok (.aload_n 0, 1) := by decide +kernel
theorem d_M_rain_22 : decode b_M_rain 22 = .ok (.iload_n 1, 1) := by decide +kernel
theorem d_M_rain_23 : decode b_M_rain 23 = .ok (.invokevirtual 352, 3) := by decide +kernel
theorem d_M_rain_26 : decode b_M_rain 26 = .ok (.aload_n 0, 1) := by decide +kernel
theorem d_M_rain_27 : decode b_M_rain 27 = .ok (.invokevirtual 356, 3) := by decide +kernel
theorem d_M_rain_30 : decode b_M_rain 30 = .ok (.iconst 0, 1) := by decide +kernel
theorem d_M_rain_31 : decode b_M_rain 31 = .ok (.istore_n 3, 1) := by decide +kernel
theorem d_M_rain_32 : decode b_M_rain 32 = .ok (.iconst 0, 1) := by decide +kernel
theorem d_M_rain_33 : decode b_M_rain 33 = .ok (.istore 4, 2) := by decide +kernel
theorem d_M_rain_35 : decode b_M_rain 35 = .ok (.iload 4, 2) := by decide +kernel
theorem d_M_rain_37 : decode b_M_rain 37 = .ok (.aload_n 0, 1) := by decide +kernel
theorem d_M_rain_38 : decode b_M_rain 38 = .ok (.getfield 343, 3) := by decide +kernel
theorem d_M_rain_41 : decode b_M_rain 41 = .ok (.if_icmp .ge 68, 3) := by decide +kernel
theorem d_M_rain_44 : decode b_M_rain 44 = .ok (.aload_n 0, 1) := by decide +kernel
theorem d_M_rain_45 : decode b_M_rain 45 = .ok (.getfield 94, 3) := by decide +kernel
theorem d_M_rain_48 : decode b_M_rain 48 = .ok (.aload_n 0, 1) := by decide +kernel
theorem d_M_rain_49 : decode b_M_rain 49 = .ok (.getfield 100, 3) := by decide +kernel
theorem d_M_rain_52 : decode b_M_rain 52 = .ok (.iload 4, 2) := by decide +kernel
theorem d_M_rain_54 : decode b_M_rain 54 = .ok (.iaload, 1) := by decide +kernel
theorem d_M_rain_55 : decode b_M_rain 55 = .ok (.iaload, 1) := by decide +kernel
theorem d_M_rain_56 : decode b_M_rain 56 = .ok (.ifCond .lt 47, 3) := by decide +kernel
theorem d_M_rain_59 : decode b_M_rain 59 = .ok (.aload_n 0, 1) := by decide +kernel
theorem d_M_rain_60 : decode b_M_rain 60 = .ok (.getfield 94, 3) := by decide +kernel
theorem d_M_rain_63 : decode b_M_rain 63 = .ok (.aload_n 0, 1) := by decide +kernel
theorem d_M_rain_64 : decode b_M_rain 64 = .ok (.getfield 100, 3) := by decide +kernel
theorem d_M_rain_67 : decode b_M_rain 67 = .ok (.iload 4, 2) := by decide +kernel
theorem d_M_rain_69 : decode b_M_rain 69 = .ok (.iaload, 1) := by decide +kernel
theorem d_M_rain_70 : decode b_M_rain 70 = .ok (.iaload, 1) := by decide +kernel
theorem d_M_rain_71 : decode b_M_rain 71 = .ok (.iload_n 2, 1) := by decide +kernel
theorem d_M_rain_72 : decode b_M_rain 72 = .ok (.if_icmp .gt 31, 3) := by decide +kernel
theorem d_M_rain_75 : decode b_M_rain 75 = .ok (.aload_n 0, 1) := by decide +kernel
theorem d_M_rain_76 : decode b_M_rain 76 = .ok (.getfield 97, 3) := by decide +kernel
theorem d_M_rain_79 : decode b_M_rain 79 = .ok (.aload_n 0, 1) := by decide +kernel
theorem d_M_rain_80 : decode b_M_rain 80 = .ok (.getfield 100, 3) := by decide +kernel
theorem d_M_rain_83 : decode b_M_rain 83 = .ok (.iload 4, 2) := by decide +kernel
theorem d_M_rain_85 : decode b_M_rain 85 = .ok (.iaload, 1) := by decide +kernel
theorem d_M_rain_86 : decode b_M_rain 86 = .ok (.iaload, 1) := by decide +kernel
theorem d_M_rain_87 : decode b_M_rain 87 = .ok (.iload_n 2, 1) := by decide +kernel
theorem d_M_rain_88 : decode b_M_rain 88 = .ok (.if_icmp .le 15, 3) := by decide +kernel
theorem d_M_rain_91 : decode b_M_rain 91 = .ok (.iload_n 3, 1) := by decide +kernel
theorem d_M_rain_92 : decode b_M_rain 92 = .ok (.iconst 1, 1) := by decide +kernel
theorem d_M_rain_93 : decode b_M_rain 93 = .ok (.aload_n 0, 1) := by decide +kernel
theorem d_M_rain_94 : decode b_M_rain 94 = .ok (.getfield 100, 3) := by decide +kernel
theorem d_M_rain_97 : decode b_M_rain 97 = .ok (.iload 4, 2) := by decide +kernel
theorem d_M_rain_99 : decode b_M_rain 99 = .ok (.iaload, 1) := by decide +kernel
theorem d_M_rain_100 : decode b_M_rain 100 = .ok (.ishl, 1) := by decide +kernel
theorem d_M_rain_101 : decode b_M_rain 101 = .ok (.ior, 1) := by decide +kernel
theorem d_M_rain_102 : decode b_M_rain 102 = .ok (.istore_n 3, 1) := by decide +kernel
theorem d_M_rain_103 : decode b_M_rain 103 = .ok (.iinc 4 1, 3) := by decide +kernel
theorem d_M_rain_106 : decode b_M_rain 106 = .ok (.goto (-71), 3) := by decide +kernel
theorem d_M_rain_109 : decode b_M_rain 109 = .ok (.iload_n 3, 1) := by decide +kernel
theorem d_M_rain_110 : decode b_M_rain 110 = .ok (.ireturn, 1) := by decide +kernel
theorem d_M_redo_0 : decode b_M_redo 0 = .ok (.aload_n 0, 1) := by decide +kernel
theorem d_M_redo_1 : decode b_M_redo 1 = .ok (.getfield 171, 3) := by decide +kernel
theorem d_M_redo_4 : decode b_M_redo 4 = .ok (.ifCond .ne 6, 3) := by decide +kernel
theorem d_M_redo_7 : decode b_M_redo 7 = .ok (.bipush (-5), 2) := by decide +kernel
theorem d_M_redo_9 : decode b_M_redo 9 = .ok (.ireturn, 1) := by decide +kernel
theorem d_M_redo_10 : decode b_M_redo 10 = .ok (.aload_n 0, 1) := by decide +kernel
theorem d_M_redo_11 : decode b_M_redo 11 = .ok (.aload_n 0, 1) := by decide +kernel
theorem d_M_redo_12 : decode b_M_redo 12 = .ok (.getfield 47, 3) := by decide +kernel
theorem d_M_redo_15 : decode b_M_redo 15 = .ok (.aload_n 0, 1) := by decide +kernel
theorem d_M_redo_16 : decode b_M_redo 16 = .ok (.getfield 174, 3) := by decide +kernel
theorem d_M_redo_19 : decode b_M_redo 19 = .ok (.iaload, 1) := by decide +kernel
theorem d_M_redo_20 : decode b_M_redo 20 = .ok (.aload_n 0, 1) := by decide +kernel
theorem d_M_redo_21 : decode b_M_redo 21 = .ok (.getfield 50, 3) := by decide +kernel
theorem d_M_redo_24 : decode b_M_redo 24 = .ok (.aload_n 0, 1) := by decide +kernel
theorem d_M_redo_25 : decode b_M_redo 25 = .ok (.getfield 174, 3) := by decide +kernel
theorem d_M_redo_28 : decode b_M_redo 28 = .ok (.iaload, 1) := by decide +kernel
theorem d_M_redo_29 : decode b_M_redo 29 = .ok (.aload_n 0, 1) := by decide +kernel
theorem d_M_redo_30 : decode b_M_redo 30 = .ok (.getfield 56, 3) := by decide +kernel
theorem d_M_redo_33 : decode b_M_redo 33 = .ok (.aload_n 0, 1) := by decide +kernel
theorem d_M_redo_34 : decode b_M_redo 34 = .ok (.getfield 174, 3) := by decide +kernel
theorem d_M_redo_37 : decode b_M_redo 37 = .ok (.iaload, 1) := by decide +kernel
theorem d_M_redo_38 : decode b_M_redo 38 = .ok (.invokevirtual 177, 3) := by decide +kernel
theorem d_M_redo_41 : decode b_M_redo 41 = .ok (.aload_n 0, 1) := by decide +kernel
theorem d_M_redo_42 : decode b_M_redo 42 = .ok (.dup, 1) := by decide +kernel
theorem d_M_redo_43 : decode b_M_redo 43 = .ok (.getfield 174, 3) := by decide +kernel
theorem d_M_redo_46 : decode b_M_redo 46 = .ok (.iconst 1, 1) := by decide +kernel
theorem d_M_redo_47 : decode b_M_redo 47 = .ok (.iadd, 1) := by decide +kernel
theorem d_M_redo_48 : decode b_M_redo 48 = .ok (.putfield 174, 3) := by decide +kernel
theorem d_M_redo_51 : decode b_M_redo 51 = .ok (.aload_n 0, 1) := by decide +kernel
theorem d_M_redo_52 : decode b_M_redo 52 = .ok (.dup, 1) := by decide +kernel
theorem d_M_redo_53 : decode b_M_redo 53 = .ok (.getfield 171, 3) := by decide +kernel
theorem d_M_redo_56 : decode b_M_redo 56 = .ok (.iconst 1, 1) := by decide +kernel
theorem d_M_redo_57 : decode b_M_redo 57 = .ok (.isub, 1) := by decide +kernel
theorem d_M_redo_58 : decode b_M_redo 58 = .ok (.putfield 171, 3) := by decide +kernel
theorem d_M_redo_61 : decode b_M_redo 61 = .ok (.aload_n 0, 1) := by decide +kernel
theorem d_M_redo_62 : decode b_M_redo 62 = .ok (.getfield 171, 3) := by decide +kernel
theorem d_M_redo_65 : decode b_M_redo 65 = .ok (.ireturn, 1) := by decide +kernel
theorem d_M_row_0 : decode b_M_row 0 = .ok (.iload_n 1, 1) := by decide +kernel
theorem d_M_row_1 : decode b_M_row 1 = .ok (.invokestatic 161, 3) := by decide +kernel
theorem d_M_row_4 : decode b_M_row 4 = .ok (.ifCond .eq 18, 3) := by decide +kernel
theorem d_M_row_7 : decode b_M_row 7 = .ok (.iload_n 2, 1) := by decide +kernel
theorem d_M_row_8 : decode b_M_row 8 = .ok (.iconst 0, 1) := by decide +kernel
theorem d_M_row_9 : decode b_M_row 9 = .ok (.iconst 4, 1) := by decide +kernel
theorem d_M_row_10 : decode b_M_row 10 = .ok (.invokestatic 153, 3) := by decide +kernel
theorem d_M_row_13 : decode b_M_row 13 = .ok (.ifCond .eq 9, 3) := by decide +kernel
theorem d_M_row_16 : decode b_M_row 16 = .ok (.iload_n 3, 1) := by decide +kernel
theorem d_M_row_17 : decode b_M_row 17 = .ok (.bipush 60, 2) := by decide +kernel
theorem d_M_row_19 : decode b_M_row 19 = .ok (.if_icmp .le 5, 3) := by decide +kernel
theorem d_M_row_22 : decode b_M_row 22 = .ok (.iconst (-1), 1) := by decide +kernel
theorem d_M_row_23 : decode b_M_row 23 = .ok (.ireturn, 1) := by decide +kernel
theorem d_M_row_24 : decode b_M_row 24 = .ok (.iload_n 3, 1) := by decide +kernel
theorem d_M_row_25 : decode b_M_row 25 = .ok (.ifCond .ge 6, 3) := by decide +kernel
theorem d_M_row_28 : decode b_M_row 28 = .ok (.bipush (-14), 2) := by decide +kernel
theorem d_M_row_30 : decode b_M_row 30 = .ok (.ireturn, 1) := by decide +kernel
theorem d_M_row_31 : decode b_M_row 31 = .ok (.aload_n 0, 1) := by decide +kernel
theorem d_M_row_32 : decode b_M_row 32 = .ok (.getfield 134, 3) := by decide +kernel
theorem d_M_row_35 : decode b_M_row 35 = .ok (.iload_n 1, 1) := by decide +kernel
theorem d_M_row_36 : decode b_M_row 36 = .ok (.bipush (-2), 2) := by decide +kernel
theorem d_M_row_38 : decode b_M_row 38 = .ok (.iload_n 2, 1) := by decide +kernel
theorem d_M_row_39 : decode b_M_row 39 = .ok (.isub, 1) := by decide +kernel
theorem d_M_row_40 : decode b_M_row 40 = .ok (.iastore, 1) := by decide +kernel
theorem d_M_row_41 : decode b_M_row 41 = .ok (.aload_n 0, 1) := by decide +kernel
theorem d_M_row_42 : decode b_M_row 42 = .ok (.getfield 137, 3) := by decide +kernel
theorem d_M_row_45 : decode b_M_row 45 = .ok (.iload_n 1, 1) := by decide +kernel
theorem d_M_row_46 : decode b_M_row 46 = .ok (.iload_n 3, 1) := by decide +kernel
theorem d_M_row_47 : decode b_M_row 47 = .ok (.iastore, 1) := by decide +kernel
theorem d_M_row_48 : decode b_M_row 48 = .ok (.bipush 60, 2) := by decide +kernel
theorem d_M_row_50 : decode b_M_row 50 = .ok (.iload_n 1, 1) := by decide +kernel
theorem d_M_row_51 : decode b_M_row 51 = .ok (.imul, 1) := by decide +kernel
theorem d_M_row_52 : decode b_M_row 52 = .ok (.istore 4, 2) := by decide +kernel
theorem d_M_row_54 : decode b_M_row 54 = .ok (.iload 4, 2) := by decide +kernel
theorem d_M_row_56 : decode b_M_row 56 = .ok (.bipush 60, 2) := by decide +kernel
theorem d_M_row_58 : decode b_M_row 58 = .ok (.iload_n 1, 1) := by decide +kernel
theorem d_M_row_59 : decode b_M_row 59 = .ok (.imul, 1) := by decide +kernel
theorem d_M_row_60 : decode b_M_row 60 = .ok (.bipush 60, 2) := by decide +kernel
theorem d_M_row_62 : decode b_M_row 62 = .ok (.iadd, 1) := by decide +kernel
theorem d_M_row_63 : decode b_M_row 63 = .ok (.if_icmp .ge 17, 3) := by decide +kernel
theorem d_M_row_66 : decode b_M_row 66 = .ok (.aload_n 0, 1) := by decide +kernel
theorem d_M_row_67 : decode b_M_row 67 = .ok (.getfield 140, 3) := by decide +kernel
theorem d_M_row_70 : decode b_M_row 70 = .ok (.iload 4, 2) := by decide +kernel
theorem d_M_row_72 : decode b_M_row 72 = .ok (.lconst 0, 1) := by decide +kernel
theorem d_M_row_73 : decode b_M_row 73 = .ok (.lastore, 1) := by decide +kernel
theorem d_M_row_74 : decode b_M_row 74 = .ok (.iinc 4 1, 3) := by decide +kernel
theorem d_M_row_77 : decode b_M_row 77 = .ok (.goto (-23), 3) := by decide +kernel
theorem d_M_row_80 : decode b_M_row 80 = .ok (.iconst 1, 1) := by decide +kernel
theorem d_M_row_81 : decode b_M_row 81 = .ok (.ireturn, 1) := by decide +kernel
theorem d_M_run_0 : decode b_M_run 0 = .ok (.aload_n 0, 1) := by decide +kernel
theorem d_M_run_1 : decode b_M_run 1 = .ok (.iload_n 1, 1) := by decide +kernel
theorem d_M_run_2 : decode b_M_run 2 = .ok (.invokevirtual 289, 3) := by decide +kernel
theorem d_M_run_5 : decode b_M_run 5 = .ok (.ifCond .eq 19, 3) := by decide +kernel
theorem d_M_run_8 : decode b_M_run 8 = .ok (.iload_n 2, 1) := by decide +kernel
theorem d_M_run_9 : decode b_M_run 9 = .ok (.invokestatic 292, 3) := by decide +kernel
theorem d_M_run_12 : decode b_M_run 12 = .ok (.ifCond .eq 12, 3) := by decide +kernel
theorem d_M_run_15 : decode b_M_run 15 = .ok (.iload_n 3, 1) := by decide +kernel
theorem d_M_run_16 : decode b_M_run 16 = .ok (.iconst 0, 1) := by decide +kernel
theorem d_M_run_17 : decode b_M_run 17 = .ok (.iconst 3, 1) := by decide +kernel
theorem d_M_run_18 : decode b_M_run 18 = .ok (.invokestatic 153, 3) := by decide +kernel
theorem d_M_run_21 : decode b_M_run 21 = .ok (.ifCond .ne 5, 3) := by decide +kernel
theorem d_M_run_24 : decode b_M_run 24 = .ok (.iconst (-1), 1) := by decide +kernel
theorem d_M_run_25 : decode b_M_run 25 = .ok (.ireturn, 1) := by decide +kernel
theorem d_M_run_26 : decode b_M_run 26 = .ok (.iload_n 3, 1) := by decide +kernel
theorem d_M_run_27 : decode b_M_run 27 = .ok (.tableswitch 65 0 2 #[25, 40, 55], 25) := by decide +kernel
theorem d_M_run_52 : decode b_M_run 52 = .ok (.aload_n 0, 1) := by decide +kernel
theorem d_M_run_53 : decode b_M_run 53 = .ok (.iload_n 1, 1) := by decide +kernel
theorem d_M_run_54 : decode b_M_run 54 = .ok (.iload_n 2, 1) := by decide +kernel
theorem d_M_run_55 : decode b_M_run 55 = .ok (.bipush 10, 2) := by decide +kernel
theorem d_M_run_57 : decode b_M_run 57 = .ok (.idiv, 1) := by decide +kernel
theorem d_M_run_58 : decode b_M_run 58 = .ok (.aload_n 0, 1) := by decide +kernel
theorem d_M_run_59 : decode b_M_run 59 = .ok (.iload_n 2, 1) := by decide +kernel
theorem d_M_run_60 : decode b_M_run 60 = .ok (.invokevirtual 295, 3) := by decide +kernel
theorem d_M_run_63 : decode b_M_run 63 = .ok (.invokevirtual 277, 3) := by decide +kernel
theorem d_M_run_66 : decode b_M_run 66 = .ok (.ireturn, 1) := by decide +kernel
theorem d_M_run_67 : decode b_M_run 67 = .ok (.aload_n 0, 1) := by decide +kernel
theorem d_M_run_68 : decode b_M_run 68 = .ok (.iload_n 1, 1) := by decide +kernel
theorem d_M_run_69 : decode b_M_run 69 = .ok (.iload_n 2, 1) := by decide +kernel
theorem d_M_run_70 : decode b_M_run 70 = .ok (.bipush 10, 2) := by decide +kernel
theorem d_M_run_72 : decode b_M_run 72 = .ok (.idiv, 1) := by decide +kernel
theorem d_M_run_73 : decode b_M_run 73 = .ok (.aload_n 0, 1) := by decide +kernel
theorem d_M_run_74 : decode b_M_run 74 = .ok (.iload_n 2, 1) := by decide +kernel
theorem d_M_run_75 : decode b_M_run 75 = .ok (.invokevirtual 295, 3) := by decide +kernel
theorem d_M_run_78 : decode b_M_run 78 = .ok (.invokevirtual 298, 3) := by decide +kernel
theorem d_M_run_81 : decode b_M_run 81 = .ok (.ireturn, 1) := by decide +kernel
theorem d_M_run_82 : decode b_M_run 82 = .ok (.aload_n 0, 1) := by decide +kernel
theorem d_M_run_83 : decode b_M_run 83 = .ok (.iload_n 1, 1) := by decide +kernel
theorem d_M_run_84 : decode b_M_run 84 = .ok (.iload_n 2, 1) := by decide +kernel
theorem d_M_run_85 : decode b_M_run 85 = .ok (.bipush 10, 2) := by decide +kernel
theorem d_M_run_87 : decode b_M_run 87 = .ok (.idiv, 1) := by decide +kernel
theorem d_M_run_88 : decode b_M_run 88 = .ok (.invokevirtual 286, 3) := by decide +kernel
theorem d_M_run_91 : decode b_M_run 91 = .ok (.ireturn, 1) := by decide +kernel
theorem d_M_run_92 : decode b_M_run 92 = .ok (.aload_n 0, 1) := by decide +kernel
theorem d_M_run_93 : decode b_M_run 93 = .ok (.iload_n 1, 1) := by decide +kernel
theorem d_M_run_94 : decode b_M_run 94 = .ok (.invokevirtual 283, 3) := by decide +kernel
theorem d_M_run_97 : decode b_M_run 97 = .ok (.ifCond .eq 7, 3) := by decide +kernel
theorem d_M_run_100 : decode b_M_run 100 = .ok (.iconst 1, 1) := by decide +kernel
theorem d_M_run_101 : decode b_M_run 101 = .ok (.goto 4, 3) := by decide +kernel
theorem d_M_run_104 : decode b_M_run 104 = .ok (.iconst 0, 1) := by decide +kernel
theorem d_M_run_105 : decode b_M_run 105 = .ok (.ireturn, 1) := by decide +kernel
theorem d_M_safe_0 : decode b_M_safe 0 = .ok (.aload_n 0, 1) := by decide +kernel
theorem d_M_safe_1 : decode b_M_safe 1 = .ok (.iload_n 1, 1) := by decide +kernel
theorem d_M_safe_2 : decode b_M_safe 2 = .ok (.invokevirtual 289, 3) := by decide +kernel
theorem d_M_safe_5 : decode b_M_safe 5 = .ok (.ifCond .eq 20, 3) := by decide +kernel
theorem d_M_safe_8 : decode b_M_safe 8 = .ok (.iload_n 2, 1) := by decide +kernel
theorem d_M_safe_9 : decode b_M_safe 9 = .ok (.invokestatic 292, 3) := by decide +kernel
theorem d_M_safe_12 : decode b_M_safe 12 = .ok (.ifCond .eq 13, 3) := by decide +kernel
theorem d_M_safe_15 : decode b_M_safe 15 = .ok (.iload_n 3, 1) := by decide +kernel
theorem d_M_safe_16 : decode b_M_safe 16 = .ok (.iconst 0, 1) := by decide +kernel
theorem d_M_safe_17 : decode b_M_safe 17 = .ok (.bipush 99, 2) := by decide +kernel
theorem d_M_safe_19 : decode b_M_safe 19 = .ok (.invokestatic 153, 3) := by decide +kernel
theorem d_M_safe_22 : decode b_M_safe 22 = .ok (.ifCond .ne 5, 3) := by decide +kernel
theorem d_M_safe_25 : decode b_M_safe 25 = .ok (.iconst (-1), 1) := by decide +kernel
theorem d_M_safe_26 : decode b_M_safe 26 = .ok (.ireturn, 1) := by decide +kernel
theorem d_M_safe_27 : decode b_M_safe 27 = .ok (.aload_n 0, 1) := by decide +kernel
theorem d_M_safe_28 : decode b_M_safe 28 = .ok (.iload_n 1, 1) := by decide +kernel
theorem d_M_safe_29 : decode b_M_safe 29 = .ok (.iload_n 2, 1) := by decide +kernel
theorem d_M_safe_30 : decode b_M_safe 30 = .ok (.bipush 10, 2) := by decide +kernel
theorem d_M_safe_32 : decode b_M_safe 32 = .ok (.idiv, 1) := by decide +kernel
theorem d_M_safe_33 : decode b_M_safe 33 = .ok (.aload_n 0, 1) := by decide +kernel
theorem d_M_safe_34 : decode b_M_safe 34 = .ok (.iload_n 2, 1) := by decide +kernel
theorem d_M_safe_35 : decode b_M_safe 35 = .ok (.invokevirtual 295, 3) := by decide +kernel
theorem d_M_safe_38 : decode b_M_safe 38 = .ok (.iload_n 3, 1) := by decide +kernel
theorem d_M_safe_39 : decode b_M_safe 39 = .ok (.invokevirtual 301, 3) := by decide +kernel
theorem d_M_safe_42 : decode b_M_safe 42 = .ok (.ifCond .eq 7, 3) := by decide +kernel
theorem d_M_safe_45 : decode b_M_safe 45 = .ok (.iconst 1, 1) := by decide +kernel
theorem d_M_safe_46 : decode b_M_safe 46 = .ok (.goto 4, 3) := by decide +kernel
theorem d_M_safe_49 : decode b_M_safe 49 = .ok (.iconst 0, 1) := by decide +kernel
theorem d_M_safe_50 : decode b_M_safe 50 = .ok (.ireturn, 1) := by decide +kernel
theorem d_M_shift_0 : decode b_M_shift 0 = .ok (.iload_n 1, 1) := by decide +kernel
theorem d_M_shift_1 : decode b_M_shift 1 = .ok (.invokestatic 161, 3) := by decide +kernel
theorem d_M_shift_4 : decode b_M_shift 4 = .ok (.ifCond .eq 10, 3) := by decide +kernel
theorem d_M_shift_7 : decode b_M_shift 7 = .ok (.iload_n 3, 1) := by decide +kernel
theorem d_M_shift_8 : decode b_M_shift 8 = .ok (.invokestatic 161, 3) := by decide +kernel
theorem d_M_shift_11 : decode b_M_shift 11 = .ok (.ifCond .ne 5, 3) := by decide +kernel
theorem d_M_shift_14 : decode b_M_shift 14 = .ok (.iconst (-1), 1) := by decide +kernel
theorem d_M_shift_15 : decode b_M_shift 15 = .ok (.ireturn, 1) := by decide +kernel
theorem d_M_shift_16 : decode b_M_shift 16 = .ok (.aload_n 0, 1) := by decide +kernel
theorem d_M_shift_17 : decode b_M_shift 17 = .ok (.getfield 134, 3) := by decide +kernel
theorem d_M_shift_20 : decode b_M_shift 20 = .ok (.iload_n 1, 1) := by decide +kernel
theorem d_M_shift_21 : decode b_M_shift 21 = .ok (.iaload, 1) := by decide +kernel
theorem d_M_shift_22 : decode b_M_shift 22 = .ok (.iconst (-1), 1) := by decide +kernel
theorem d_M_shift_23 : decode b_M_shift 23 = .ok (.if_icmp .eq 13, 3) := by decide +kernel
theorem d_M_shift_26 : decode b_M_shift 26 = .ok (.aload_n 0, 1) := by decide +kernel
theorem d_M_shift_27 : decode b_M_shift 27 = .ok (.getfield 134, 3) := by decide +kernel
theorem d_M_shift_30 : decode b_M_shift 30 = .ok (.iload_n 3, 1) := by decide +kernel
theorem d_M_shift_31 : decode b_M_shift 31 = .ok (.iaload, 1) := by decide +kernel
theorem d_M_shift_32 : decode b_M_shift 32 = .ok (.iconst (-1), 1) := by decide +kernel
theorem d_M_shift_33 : decode b_M_shift 33 = .ok (.if_icmp .ne 6, 3) := by decide +kernel
theorem d_M_shift_36 : decode b_M_shift 36 = .ok (.bipush (-11), 2) := by decide +kernel
theorem d_M_shift_38 : decode b_M_shift 38 = .ok (.ireturn, 1) := by decide +kernel
theorem d_M_shift_39 : decode b_M_shift 39 = .ok (.aload_n 0, 1) := by decide +kernel
theorem d_M_shift_40 : decode b_M_shift 40 = .ok (.getfield 134, 3) := by decide +kernel
theorem d_M_shift_43 : decode b_M_shift 43 = .ok (.iload_n 1, 1) := by decide +kernel
theorem d_M_shift_44 : decode b_M_shift 44 = .ok (.iaload, 1) := by decide +kernel
theorem d_M_shift_45 : decode b_M_shift 45 = .ok (.ifCond .ge 18, 3) := by decide +kernel
theorem d_M_shift_48 : decode b_M_shift 48 = .ok (.aload_n 0, 1) := by decide +kernel
theorem d_M_shift_49 : decode b_M_shift 49 = .ok (.getfield 134, 3) := by decide +kernel
theorem d_M_shift_52 : decode b_M_shift 52 = .ok (.iload_n 1, 1) := by decide +kernel
theorem d_M_shift_53 : decode b_M_shift 53 = .ok (.iaload, 1) := by decide +kernel
theorem d_M_shift_54 : decode b_M_shift 54 = .ok (.aload_n 0, 1) := by decide +kernel
theorem d_M_shift_55 : decode b_M_shift 55 = .ok (.getfield 134, 3) := by decide +kernel
theorem d_M_shift_58 : decode b_M_shift 58 = .ok (.iload_n 3, 1) := by decide +kernel
theorem d_M_shift_59 : decode b_M_shift 59 = .ok (.iaload, 1) := by decide +kernel
theorem d_M_shift_60 : decode b_M_shift 60 = .ok (.if_icmp .eq 6, 3) := by decide +kernel
theorem d_M_shift_63 : decode b_M_shift 63 = .ok (.bipush (-12), 2) := by decide +kernel
theorem d_M_shift_65 : decode b_M_shift 65 = .ok (.ireturn, 1) := by decide +kernel
theorem d_M_shift_66 : decode b_M_shift 66 = .ok (.iload 5, 2) := by decide +kernel
theorem d_M_shift_68 : decode b_M_shift 68 = .ok (.ifCond .lt 39, 3) := by decide +kernel
theorem d_M_shift_71 : decode b_M_shift 71 = .ok (.iload_n 2, 1) := by decide +kernel
theorem d_M_shift_72 : decode b_M_shift 72 = .ok (.ifCond .lt 35, 3) := by decide +kernel
theorem d_M_shift_75 : decode b_M_shift 75 = .ok (.iload 4, 2) := by decide +kernel
theorem d_M_shift_77 : decode b_M_shift 77 = .ok (.ifCond .lt 30, 3) := by decide +kernel
theorem d_M_shift_80 : decode b_M_shift 80 = .ok (.iload_n 2, 1) := by decide +kernel
theorem d_M_shift_81 : decode b_M_shift 81 = .ok (.aload_n 0, 1) := by decide +kernel
theorem d_M_shift_82 : decode b_M_shift 82 = .ok (.getfield 137, 3) := by decide +kernel
theorem d_M_shift_85 : decode b_M_shift 85 = .ok (.iload_n 1, 1) := by decide +kernel
theorem d_M_shift_86 : decode b_M_shift 86 = .ok (.iaload, 1) := by decide +kernel
theorem d_M_shift_87 : decode b_M_shift 87 = .ok (.iload 5, 2) := by decide +kernel
theorem d_M_shift_89 : decode b_M_shift 89 = .ok (.isub, 1) := by decide +kernel
theorem d_M_shift_90 : decode b_M_shift 90 = .ok (.if_icmp .gt 17, 3) := by decide +kernel
theorem d_M_shift_93 : decode b_M_shift 93 = .ok (.iload 4, 2) := by decide +kernel
theorem d_M_shift_95 : decode b_M_shift 95 = .ok (.aload_n 0, 1) := by decide +kernel
theorem d_M_shift_96 : decode b_M_shift 96 = .ok (.getfield 137, 3) := by decide +kernel
theorem d_M_shift_99 : decode b_M_shift 99 = .ok (.iload_n 3, 1) := by decide +kernel
theorem d_M_shift_100 : decode b_M_shift 100 = .ok (.iaload, 1) := by decide +kernel
theorem d_M_shift_101 : decode b_M_shift 101 = .ok (.iload 5, 2) := by decide +kernel
theorem d_M_shift_103 : decode b_M_shift 103 = .ok (.isub, 1) := by decide +kernel
theorem d_M_shift_104 : decode b_M_shift 104 = .ok (.if_icmp .le 6, 3) := by decide +kernel
theorem d_M_shift_107 : decode b_M_shift 107 = .ok (.bipush (-13), 2) := by decide +kernel
theorem d_M_shift_109 : decode b_M_shift 109 = .ok (.ireturn, 1) := by decide +kernel
theorem d_M_shift_110 : decode b_M_shift 110 = .ok (.iconst 0, 1) := by decide +kernel
theorem d_M_shift_111 : decode b_M_shift 111 = .ok (.istore 6, 2) := by decide +kernel
theorem d_M_shift_113 : decode b_M_shift 113 = .ok (.iload 6, 2) := by decide +kernel
theorem d_M_shift_115 : decode b_M_shift 115 = .ok (.iload 5, 2) := by decide +kernel
theorem d_M_shift_117 : decode b_M_shift 117 = .ok (.if_icmp .ge 30, 3) := by decide +kernel
theorem d_M_shift_120 : decode b_M_shift 120 = .ok (.aload_n 0, 1) := by decide +kernel
theorem d_M_shift_121 : decode b_M_shift 121 = .ok (.getfield 144, 3) := by decide +kernel
theorem d_M_shift_124 : decode b_M_shift 124 = .ok (.iload 6, 2) := by decide +kernel
theorem d_M_shift_126 : decode b_M_shift 126 = .ok (.aload_n 0, 1) := by decide +kernel
theorem d_M_shift_127 : decode b_M_shift 127 = .ok (.getfield 140, 3) := by decide +kernel
theorem d_M_shift_130 : decode b_M_shift 130 = .ok (.bipush 60, 2) := by decide +kernel
theorem d_M_shift_132 : decode b_M_shift 132 = .ok (.iload_n 1, 1) := by decide +kernel
theorem d_M_shift_133 : decode b_M_shift 133 = .ok (.imul, 1) := by decide +kernel
theorem d_M_shift_134 : decode b_M_shift 134 = .ok (.iload_n 2, 1) := by decide +kernel
theorem d_M_shift_135 : decode b_M_shift 135 = .ok (.iadd, 1) := by decide +kernel
theorem d_M_shift_136 : decode b_M_shift 136 = .ok (.iload 6, 2) := by decide +kernel
theorem d_M_shift_138 : decode b_M_shift 138 = .ok (.iadd, 1) := by decide +kernel
theorem d_M_shift_139 : decode b_M_shift 139 = .ok (.laload, 1) := by decide +kernel
theorem d_M_shift_140 : decode b_M_shift 140 = .ok (.lastore, 1) := by decide +kernel
theorem d_M_shift_141 : decode b_M_shift 141 = .ok (.iinc 6 1, 3) := by decide +kernel
theorem d_M_shift_144 : decode b_M_shift 144 = .ok (.goto (-31), 3) := by decide +kernel
theorem d_M_shift_147 : decode b_M_shift 147 = .ok (.iconst 0, 1) := by decide +kernel
theorem d_M_shift_148 : decode b_M_shift 148 = .ok (.istore 6, 2) := by decide +kernel
theorem d_M_shift_150 : decode b_M_shift 150 = .ok (.iload 6, 2) := by decide +kernel
theorem d_M_shift_152 : decode b_M_shift 152 = .ok (.iload 5, 2) := by decide +kernel
theorem d_M_shift_154 : decode b_M_shift 154 = .ok (.if_icmp .ge 31, 3) := by decide +kernel
theorem d_M_shift_157 : decode b_M_shift 157 = .ok (.aload_n 0, 1) := by decide +kernel
theorem d_M_shift_158 : decode b_M_shift 158 = .ok (.getfield 140, 3) := by decide +kernel
theorem d_M_shift_161 : decode b_M_shift 161 = .ok (.bipush 60, 2) := by decide +kernel
theorem d_M_shift_163 : decode b_M_shift 163 = .ok (.iload_n 3, 1) := by decide +kernel
theorem d_M_shift_164 : decode b_M_shift 164 = .ok (.imul, 1) := by decide +kernel
theorem d_M_shift_165 : decode b_M_shift 165 = .ok (.iload 4, 2) := by decide +kernel
theorem d_M_shift_167 : decode b_M_shift 167 = .ok (.iadd, 1) := by decide +kernel
theorem d_M_shift_168 : decode b_M_shift 168 = .ok (.iload 6, 2) := by decide +kernel
theorem d_M_shift_170 : decode b_M_shift 170 = .ok (.iadd, 1) := by decide +kernel
theorem d_M_shift_171 : decode b_M_shift 171 = .ok (.aload_n 0, 1) := by decide +kernel
theorem d_M_shift_172 : decode b_M_shift 172 = .ok (.getfield 144, 3) := by decide +kernel
theorem d_M_shift_175 : decode b_M_shift 175 = .ok (.iload 6, 2) := by decide +kernel
theorem d_M_shift_177 : decode b_M_shift 177 = .ok (.laload, 1) := by decide +kernel
theorem d_M_shift_178 : decode b_M_shift 178 = .ok (.lastore, 1) := by decide +kernel
theorem d_M_shift_179 : decode b_M_shift 179 = .ok (.iinc 6 1, 3) := by decide +kernel
theorem d_M_shift_182 : decode b_M_shift 182 = .ok (.goto (-32), 3) := by decide +kernel
theorem d_M_shift_185 : decode b_M_shift 185 = .ok (.iload 5, 2) := by decide +kernel
theorem d_M_shift_187 : decode b_M_shift 187 = .ok (.ireturn, 1) := by decide +kernel
theorem d_M_sock_0 : decode b_M_sock 0 = .ok (.iload_n 1, 1) := by decide +kernel
theorem d_M_sock_1 : decode b_M_sock 1 = .ok (.invokestatic 161, 3) := by decide +kernel
theorem d_M_sock_4 : decode b_M_sock 4 = .ok (.ifCond .eq 36, 3) := by decide +kernel
theorem d_M_sock_7 : decode b_M_sock 7 = .ok (.aload_n 0, 1) := by decide +kernel
theorem d_M_sock_8 : decode b_M_sock 8 = .ok (.iload_n 2, 1) := by decide +kernel
theorem d_M_sock_9 : decode b_M_sock 9 = .ok (.invokevirtual 289, 3) := by decide +kernel
theorem d_M_sock_12 : decode b_M_sock 12 = .ok (.ifCond .eq 28, 3) := by decide +kernel
theorem d_M_sock_15 : decode b_M_sock 15 = .ok (.iload_n 3, 1) := by decide +kernel
theorem d_M_sock_16 : decode b_M_sock 16 = .ok (.invokestatic 271, 3) := by decide +kernel
theorem d_M_sock_19 : decode b_M_sock 19 = .ok (.ifCond .eq 21, 3) := by decide +kernel
theorem d_M_sock_22 : decode b_M_sock 22 = .ok (.aload_n 0, 1) := by decide +kernel
theorem d_M_sock_23 : decode b_M_sock 23 = .ok (.iload 4, 2) := by decide +kernel
theorem d_M_sock_25 : decode b_M_sock 25 = .ok (.invokevirtual 181, 3) := by decide +kernel
theorem d_M_sock_28 : decode b_M_sock 28 = .ok (.ifCond .eq 12, 3) := by decide +kernel
theorem d_M_sock_31 : decode b_M_sock 31 = .ok (.iload_n 2, 1) := by decide +kernel
theorem d_M_sock_32 : decode b_M_sock 32 = .ok (.iload 4, 2) := by decide +kernel
theorem d_M_sock_34 : decode b_M_sock 34 = .ok (.ishr, 1) := by decide +kernel
theorem d_M_sock_35 : decode b_M_sock 35 = .ok (.iconst 1, 1) := by decide +kernel
theorem d_M_sock_36 : decode b_M_sock 36 = .ok (.iand, 1) := by decide +kernel
theorem d_M_sock_37 : decode b_M_sock 37 = .ok (.ifCond .ne 5, 3) := by decide +kernel
theorem d_M_sock_40 : decode b_M_sock 40 = .ok (.iconst (-1), 1) := by decide +kernel
theorem d_M_sock_41 : decode b_M_sock 41 = .ok (.ireturn, 1) := by decide +kernel
theorem d_M_sock_42 : decode b_M_sock 42 = .ok (.aload_n 0, 1) := by decide +kernel
theorem d_M_sock_43 : decode b_M_sock 43 = .ok (.iload_n 1, 1) := by decide +kernel
theorem d_M_sock_44 : decode b_M_sock 44 = .ok (.iconst 1, 1) := by decide +kernel
theorem d_M_sock_45 : decode b_M_sock 45 = .ok (.invokevirtual 337, 3) := by decide +kernel
theorem d_M_sock_48 : decode b_M_sock 48 = .ok (.istore 5, 2) := by decide +kernel
theorem d_M_sock_50 : decode b_M_sock 50 = .ok (.iload 5, 2) := by decide +kernel
theorem d_M_sock_52 : decode b_M_sock 52 = .ok (.ifCond .ge 6, 3) := by decide +kernel
theorem d_M_sock_55 : decode b_M_sock 55 = .ok (.iload 5, 2) := by decide +kernel
theorem d_M_sock_57 : decode b_M_sock 57 = .ok (.ireturn, 1) := by decide +kernel
theorem d_M_sock_58 : decode b_M_sock 58 = .ok (.aload_n 0, 1) := by decide +kernel
theorem d_M_sock_59 : decode b_M_sock 59 = .ok (.getfield 13, 3) := by decide +kernel
theorem d_M_sock_62 : decode b_M_sock 62 = .ok (.iload 4, 2) := by decide +kernel
theorem d_M_sock_64 : decode b_M_sock 64 = .ok (.iaload, 1) := by decide +kernel
theorem d_M_sock_65 : decode b_M_sock 65 = .ok (.istore 6, 2) := by decide +kernel
theorem d_M_sock_67 : decode b_M_sock 67 = .ok (.bipush (-2), 2) := by decide +kernel
theorem d_M_sock_69 : decode b_M_sock 69 = .ok (.istore 7, 2) := by decide +kernel
theorem d_M_sock_71 : decode b_M_sock 71 = .ok (.iconst 0, 1) := by decide +kernel
theorem d_M_sock_72 : decode b_M_sock 72 = .ok (.istore 8, 2) := by decide +kernel
theorem d_M_sock_74 : decode b_M_sock 74 = .ok (.iload 8, 2) := by decide +kernel
theorem d_M_sock_76 : decode b_M_sock 76 = .ok (.bipush 9, 2) := by decide +kernel
theorem d_M_sock_78 : decode b_M_sock 78 = .ok (.if_icmp .gt 39, 3) := by decide +kernel
theorem d_M_sock_81 : decode b_M_sock 81 = .ok (.iload 7, 2) := by decide +kernel
theorem d_M_sock_83 : decode b_M_sock 83 = .ok (.ifCond .ge 34, 3) := by decide +kernel
theorem d_M_sock_86 : decode b_M_sock 86 = .ok (.aload_n 0, 1) := by decide +kernel
theorem d_M_sock_87 : decode b_M_sock 87 = .ok (.getfield 13, 3) := by decide +kernel
theorem d_M_sock_90 : decode b_M_sock 90 = .ok (.iload 4, 2) := by decide +kernel
theorem d_M_sock_92 : decode b_M_sock 92 = .ok (.iload 8, 2) := by decide +kernel
theorem d_M_sock_94 : decode b_M_sock 94 = .ok (.iastore, 1) := by decide +kernel
theorem d_M_sock_95 : decode b_M_sock 95 = .ok (.aload_n 0, 1) := by decide +kernel
theorem d_M_sock_96 : decode b_M_sock 96 = .ok (.iload_n 1, 1) := by decide +kernel
theorem d_M_sock_97 : decode b_M_sock 97 = .ok (.iload_n 2, 1) := by decide +kernel
theorem d_M_sock_98 : decode b_M_sock 98 = .ok (.iload_n 2, 1) := by decide +kernel
theorem d_M_sock_99 : decode b_M_sock 99 = .ok (.iload_n 3, 1) := by decide +kernel
theorem d_M_sock_100 : decode b_M_sock 100 = .ok (.iconst 0, 1) := by decide +kernel
theorem d_M_sock_101 : decode b_M_sock 101 = .ok (.invokevirtual 368, 3) := by decide +kernel
theorem d_M_sock_104 : decode b_M_sock 104 = .ok (.ifCond .ge 7, 3) := by decide +kernel
theorem d_M_sock_107 : decode b_M_sock 107 = .ok (.iload 8, 2) := by decide +kernel
theorem d_M_sock_109 : decode b_M_sock 109 = .ok (.istore 7, 2) := by decide +kernel
theorem d_M_sock_111 : decode b_M_sock 111 = .ok (.iinc 8 1, 3) := by decide +kernel
theorem d_M_sock_114 : decode b_M_sock 114 = .ok (.goto (-40), 3) := by decide +kernel
theorem d_M_sock_117 : decode b_M_sock 117 = .ok (.aload_n 0, 1) := by decide +kernel
theorem d_M_sock_118 : decode b_M_sock 118 = .ok (.getfield 13, 3) := by decide +kernel
theorem d_M_sock_121 : decode b_M_sock 121 = .ok (.iload 4, 2) := by decide +kernel
theorem d_M_sock_123 : decode b_M_sock 123 = .ok (.iload 6, 2) := by decide +kernel
theorem d_M_sock_125 : decode b_M_sock 125 = .ok (.iastore, 1) := by decide +kernel
theorem d_M_sock_126 : decode b_M_sock 126 = .ok (.iload 7, 2) := by decide +kernel
theorem d_M_sock_128 : decode b_M_sock 128 = .ok (.ireturn, 1) := by decide +kernel
theorem d_M_soon_0 : decode b_M_soon 0 = .ok (.iload_n 1, 1) := by decide +kernel
theorem d_M_soon_1 : decode b_M_soon 1 = .ok (.invokestatic 161, 3) := by decide +kernel
theorem d_M_soon_4 : decode b_M_soon 4 = .ok (.ifCond .eq 13, 3) := by decide +kernel
theorem d_M_soon_7 : decode b_M_soon 7 = .ok (.iload_n 2, 1) := by decide +kernel
theorem d_M_soon_8 : decode b_M_soon 8 = .ok (.iconst 0, 1) := by decide +kernel
theorem d_M_soon_9 : decode b_M_soon 9 = .ok (.bipush 8, 2) := by decide +kernel
theorem d_M_soon_11 : decode b_M_soon 11 = .ok (.invokestatic 153, 3) := by decide +kernel
theorem d_M_soon_14 : decode b_M_soon 14 = .ok (.ifCond .ne 5, 3) := by decide +kernel
theorem d_M_soon_17 : decode b_M_soon 17 = .ok (.iconst (-1), 1) := by decide +kernel
theorem d_M_soon_18 : decode b_M_soon 18 = .ok (.ireturn, 1) := by decide +kernel
theorem d_M_soon_19 : decode b_M_soon 19 = .ok (.aload_n 0, 1) := by decide +kernel
theorem d_M_soon_20 : decode b_M_soon 20 = .ok (.iload_n 1, 1) := by decide +kernel
theorem d_M_soon_21 : decode b_M_soon 21 = .ok (.iconst 0, 1) := by decide +kernel
theorem d_M_soon_22 : decode b_M_soon 22 = .ok (.invokevirtual 337, 3) := by decide +kernel
theorem d_M_soon_25 : decode b_M_soon 25 = .ok (.istore_n 3, 1) := by decide +kernel
theorem d_M_soon_26 : decode b_M_soon 26 = .ok (.iload_n 3, 1) := by decide +kernel
theorem d_M_soon_27 : decode b_M_soon 27 = .ok (.ifCond .ge 5, 3) := by decide +kernel
theorem d_M_soon_30 : decode b_M_soon 30 = .ok (.iload_n 3, 1) := by decide +kernel
theorem d_M_soon_31 : decode b_M_soon 31 = .ok (.ireturn, 1) := by decide +kernel
theorem d_M_soon_32 : decode b_M_soon 32 = .ok (.bipush (-2), 2) := by decide +kernel
theorem d_M_soon_34 : decode b_M_soon 34 = .ok (.istore 4, 2) := by decide +kernel
theorem d_M_soon_36 : decode b_M_soon 36 = .ok (.iconst 0, 1) := by decide +kernel
theorem d_M_soon_37 : decode b_M_soon 37 = .ok (.istore 5, 2) := by decide +kernel
theorem d_M_soon_39 : decode b_M_soon 39 = .ok (.iload 5, 2) := by decide +kernel
theorem d_M_soon_41 : decode b_M_soon 41 = .ok (.aload_n 0, 1) := by decide +kernel
theorem d_M_soon_42 : decode b_M_soon 42 = .ok (.getfield 150, 3) := by decide +kernel
theorem d_M_soon_45 : decode b_M_soon 45 = .ok (.if_icmp .ge 53, 3) := by decide +kernel
theorem d_M_soon_48 : decode b_M_soon 48 = .ok (.aload_n 0, 1) := by decide +kernel
theorem d_M_soon_49 : decode b_M_soon 49 = .ok (.getfield 28, 3) := by decide +kernel
theorem d_M_soon_52 : decode b_M_soon 52 = .ok (.iload 5, 2) := by decide +kernel
theorem d_M_soon_54 : decode b_M_soon 54 = .ok (.iaload, 1) := by decide +kernel
theorem d_M_soon_55 : decode b_M_soon 55 = .ok (.iload_n 2, 1) := by decide +kernel
theorem d_M_soon_56 : decode b_M_soon 56 = .ok (.if_icmp .eq 6, 3) := by decide +kernel
theorem d_M_soon_59 : decode b_M_soon 59 = .ok (.goto 33, 3) := by decide +kernel
theorem d_M_soon_62 : decode b_M_soon 62 = .ok (.aload_n 0, 1) := by decide +kernel
theorem d_M_soon_63 : decode b_M_soon 63 = .ok (.iload_n 1, 1) := by decide +kernel
theorem d_M_soon_64 : decode b_M_soon 64 = .ok (.iload 5, 2) := by decide +kernel
theorem d_M_soon_66 : decode b_M_soon 66 = .ok (.iconst 0, 1) := by decide +kernel
theorem d_M_soon_67 : decode b_M_soon 67 = .ok (.iconst 0, 1) := by decide +kernel
theorem d_M_soon_68 : decode b_M_soon 68 = .ok (.invokevirtual 333, 3) := by decide +kernel
theorem d_M_soon_71 : decode b_M_soon 71 = .ok (.istore 6, 2) := by decide +kernel
theorem d_M_soon_73 : decode b_M_soon 73 = .ok (.iload 6, 2) := by decide +kernel
theorem d_M_soon_75 : decode b_M_soon 75 = .ok (.ifCond .ge 6, 3) := by decide +kernel
theorem d_M_soon_78 : decode b_M_soon 78 = .ok (.bipush (-2), 2) := by decide +kernel
theorem d_M_soon_80 : decode b_M_soon 80 = .ok (.ireturn, 1) := by decide +kernel
theorem d_M_soon_81 : decode b_M_soon 81 = .ok (.iload 6, 2) := by decide +kernel
theorem d_M_soon_83 : decode b_M_soon 83 = .ok (.iload 4, 2) := by decide +kernel
theorem d_M_soon_85 : decode b_M_soon 85 = .ok (.if_icmp .le 7, 3) := by decide +kernel
theorem d_M_soon_88 : decode b_M_soon 88 = .ok (.iload 6, 2) := by decide +kernel
theorem d_M_soon_90 : decode b_M_soon 90 = .ok (.istore 4, 2) := by decide +kernel
theorem d_M_soon_92 : decode b_M_soon 92 = .ok (.iinc 5 1, 3) := by decide +kernel
theorem d_M_soon_95 : decode b_M_soon 95 = .ok (.goto (-56), 3) := by decide +kernel
theorem d_M_soon_98 : decode b_M_soon 98 = .ok (.iload 4, 2) := by decide +kernel
theorem d_M_soon_100 : decode b_M_soon 100 = .ok (.ireturn, 1) := by decide +kernel
theorem d_M_swap_0 : decode b_M_swap 0 = .ok (.iload_n 1, 1) := by decide +kernel
theorem d_M_swap_1 : decode b_M_swap 1 = .ok (.invokestatic 161, 3) := by decide +kernel
theorem d_M_swap_4 : decode b_M_swap 4 = .ok (.ifCond .ne 5, 3) := by decide +kernel
theorem d_M_swap_7 : decode b_M_swap 7 = .ok (.iconst (-1), 1) := by decide +kernel
theorem d_M_swap_8 : decode b_M_swap 8 = .ok (.ireturn, 1) := by decide +kernel
theorem d_M_swap_9 : decode b_M_swap 9 = .ok (.aload_n 0, 1) := by decide +kernel
theorem d_M_swap_10 : decode b_M_swap 10 = .ok (.iload_n 1, 1) := by decide +kernel
theorem d_M_swap_11 : decode b_M_swap 11 = .ok (.iconst 0, 1) := by decide +kernel
theorem d_M_swap_12 : decode b_M_swap 12 = .ok (.invokevirtual 337, 3) := by decide +kernel
theorem d_M_swap_15 : decode b_M_swap 15 = .ok (.istore_n 2, 1) := by decide +kernel
theorem d_M_swap_16 : decode b_M_swap 16 = .ok (.iload_n 2, 1) := by decide +kernel
theorem d_M_swap_17 : decode b_M_swap 17 = .ok (.ifCond .ge 5, 3) := by decide +kernel
theorem d_M_swap_20 : decode b_M_swap 20 = .ok (.iload_n 2, 1) := by decide +kernel
theorem d_M_swap_21 : decode b_M_swap 21 = .ok (.ireturn, 1) := by decide +kernel
theorem d_M_swap_22 : decode b_M_swap 22 = .ok (.bipush (-2), 2) := by decide +kernel
theorem d_M_swap_24 : decode b_M_swap 24 = .ok (.istore_n 3, 1) := by decide +kernel
theorem d_M_swap_25 : decode b_M_swap 25 = .ok (.aload_n 0, 1) := by decide +kernel
theorem d_M_swap_26 : decode b_M_swap 26 = .ok (.iload_n 1, 1) := by decide +kernel
theorem d_M_swap_27 : decode b_M_swap 27 = .ok (.iconst 0, 1) := by decide +kernel
theorem d_M_swap_28 : decode b_M_swap 28 = .ok (.iconst 0, 1) := by decide +kernel
theorem d_M_swap_29 : decode b_M_swap 29 = .ok (.invokevirtual 340, 3) := by decide +kernel
theorem d_M_swap_32 : decode b_M_swap 32 = .ok (.istore 4, 2) := by decide +kernel
theorem d_M_swap_34 : decode b_M_swap 34 = .ok (.iconst 0, 1) := by decide +kernel
theorem d_M_swap_35 : decode b_M_swap 35 = .ok (.istore 5, 2) := by decide +kernel
theorem d_M_swap_37 : decode b_M_swap 37 = .ok (.iload 5, 2) := by decide +kernel
theorem d_M_swap_39 : decode b_M_swap 39 = .ok (.bipush 20, 2) := by decide +kernel
theorem d_M_swap_41 : decode b_M_swap 41 = .ok (.if_icmp .ge 62, 3) := by decide +kernel
theorem d_M_swap_44 : decode b_M_swap 44 = .ok (.iload 5, 2) := by decide +kernel
theorem d_M_swap_46 : decode b_M_swap 46 = .ok (.iconst 1, 1) := by decide +kernel
theorem d_M_swap_47 : decode b_M_swap 47 = .ok (.iadd, 1) := by decide +kernel
theorem d_M_swap_48 : decode b_M_swap 48 = .ok (.istore 6, 2) := by decide +kernel
theorem d_M_swap_50 : decode b_M_swap 50 = .ok (.iload 6, 2) := by decide +kernel
theorem d_M_swap_52 : decode b_M_swap 52 = .ok (.bipush 20, 2) := by decide +kernel
theorem d_M_swap_54 : decode b_M_swap 54 = .ok (.if_icmp .ge 43, 3) := by decide +kernel
theorem d_M_swap_57 : decode b_M_swap 57 = .ok (.aload_n 0, 1) := by decide +kernel
theorem d_M_swap_58 : decode b_M_swap 58 = .ok (.iload_n 1, 1) := by decide +kernel
theorem d_M_swap_59 : decode b_M_swap 59 = .ok (.iload 5, 2) := by decide +kernel
theorem d_M_swap_61 : decode b_M_swap 61 = .ok (.iload 6, 2) := by decide +kernel
theorem d_M_swap_63 : decode b_M_swap 63 = .ok (.invokevirtual 340, 3) := by decide +kernel
theorem d_M_swap_66 : decode b_M_swap 66 = .ok (.istore 7, 2) := by decide +kernel
theorem d_M_swap_68 : decode b_M_swap 68 = .ok (.iload 7, 2) := by decide +kernel
theorem d_M_swap_70 : decode b_M_swap 70 = .ok (.iload 4, 2) := by decide +kernel
theorem d_M_swap_72 : decode b_M_swap 72 = .ok (.if_icmp .lt 6, 3) := by decide +kernel
theorem d_M_swap_75 : decode b_M_swap 75 = .ok (.goto 16, 3) := by decide +kernel
theorem d_M_swap_78 : decode b_M_swap 78 = .ok (.bipush 20, 2) := by decide +kernel
theorem d_M_swap_80 : decode b_M_swap 80 = .ok (.iload 5, 2) := by decide +kernel
theorem d_M_swap_82 : decode b_M_swap 82 = .ok (.imul, 1) := by decide +kernel
theorem d_M_swap_83 : decode b_M_swap 83 = .ok (.iload 6, 2) := by decide +kernel
theorem d_M_swap_85 : decode b_M_swap 85 = .ok (.iadd, 1) := by decide +kernel
theorem d_M_swap_86 : decode b_M_swap 86 = .ok (.istore_n 3, 1) := by decide +kernel
theorem d_M_swap_87 : decode b_M_swap 87 = .ok (.iload 7, 2) := by decide +kernel
theorem d_M_swap_89 : decode b_M_swap 89 = .ok (.istore 4, 2) := by decide +kernel
theorem d_M_swap_91 : decode b_M_swap 91 = .ok (.iinc 6 1, 3) := by decide +kernel
theorem d_M_swap_94 : decode b_M_swap 94 = .ok (.goto (-44), 3) := by decide +kernel
theorem d_M_swap_97 : decode b_M_swap 97 = .ok (.iinc 5 1, 3) := by decide +kernel
theorem d_M_swap_100 : decode b_M_swap 100 = .ok (.goto (-63), 3) := by decide +kernel
theorem d_M_swap_103 : decode b_M_swap 103 = .ok (.iload_n 3, 1) := by decide +kernel
theorem d_M_swap_104 : decode b_M_swap 104 = .ok (.ireturn, 1) := by decide +kernel
theorem d_M_taken_0 : decode b_M_taken 0 = .ok (.iload_n 1, 1) := by decide +kernel
theorem d_M_taken_1 : decode b_M_taken 1 = .ok (.invokestatic 161, 3) := by decide +kernel
theorem d_M_taken_4 : decode b_M_taken 4 = .ok (.ifCond .eq 13, 3) := by decide +kernel
theorem d_M_taken_7 : decode b_M_taken 7 = .ok (.iload_n 2, 1) := by decide +kernel
theorem d_M_taken_8 : decode b_M_taken 8 = .ok (.iconst 0, 1) := by decide +kernel
theorem d_M_taken_9 : decode b_M_taken 9 = .ok (.bipush 7, 2) := by decide +kernel
theorem d_M_taken_11 : decode b_M_taken 11 = .ok (.invokestatic 153, 3) := by decide +kernel
theorem d_M_taken_14 : decode b_M_taken 14 = .ok (.ifCond .ne 5, 3) := by decide +kernel
theorem d_M_taken_17 : decode b_M_taken 17 = .ok (.iconst (-1), 1) := by decide +kernel
theorem d_M_taken_18 : decode b_M_taken 18 = .ok (.ireturn, 1) := by decide +kernel
theorem d_M_taken_19 : decode b_M_taken 19 = .ok (.aload_n 0, 1) := by decide +kernel
theorem d_M_taken_20 : decode b_M_taken 20 = .ok (.getfield 134, 3) := by decide +kernel
theorem d_M_taken_23 : decode b_M_taken 23 = .ok (.iload_n 1, 1) := by decide +kernel
theorem d_M_taken_24 : decode b_M_taken 24 = .ok (.iaload, 1) := by decide +kernel
theorem d_M_taken_25 : decode b_M_taken 25 = .ok (.iconst (-1), 1) := by decide +kernel
theorem d_M_taken_26 : decode b_M_taken 26 = .ok (.if_icmp .ne 6, 3) := by decide +kernel
theorem d_M_taken_29 : decode b_M_taken 29 = .ok (.bipush (-11), 2) := by decide +kernel
theorem d_M_taken_31 : decode b_M_taken 31 = .ok (.ireturn, 1) := by decide +kernel
theorem d_M_taken_32 : decode b_M_taken 32 = .ok (.aload_n 0, 1) := by decide +kernel
theorem d_M_taken_33 : decode b_M_taken 33 = .ok (.getfield 134, 3) := by decide +kernel
theorem d_M_taken_36 : decode b_M_taken 36 = .ok (.iload_n 1, 1) := by decide +kernel
theorem d_M_taken_37 : decode b_M_taken 37 = .ok (.iaload, 1) := by decide +kernel
theorem d_M_taken_38 : decode b_M_taken 38 = .ok (.ifCond .lt 35, 3) := by decide +kernel
theorem d_M_taken_41 : decode b_M_taken 41 = .ok (.aload_n 0, 1) := by decide +kernel
theorem d_M_taken_42 : decode b_M_taken 42 = .ok (.getfield 128, 3) := by decide +kernel
theorem d_M_taken_45 : decode b_M_taken 45 = .ok (.aload_n 0, 1) := by decide +kernel
theorem d_M_taken_46 : decode b_M_taken 46 = .ok (.getfield 134, 3) := by decide +kernel
theorem d_M_taken_49 : decode b_M_taken 49 = .ok (.iload_n 1, 1) := by decide +kernel
theorem d_M_taken_50 : decode b_M_taken 50 = .ok (.iaload, 1) := by decide +kernel
theorem d_M_taken_51 : decode b_M_taken 51 = .ok (.iaload, 1) := by decide +kernel
theorem d_M_taken_52 : decode b_M_taken 52 = .ok (.iload_n 2, 1) := by decide +kernel
theorem d_M_taken_53 : decode b_M_taken 53 = .ok (.invokestatic 394, 3) := by decide +kernel
theorem d_M_taken_56 : decode b_M_taken 56 = .ok (.ifCond .eq 17, 3) := by decide +kernel
theorem d_M_taken_59 : decode b_M_taken 59 = .ok (.aload_n 0, 1) := by decide +kernel
theorem d_M_taken_60 : decode b_M_taken 60 = .ok (.getfield 128, 3) := by decide +kernel
theorem d_M_taken_63 : decode b_M_taken 63 = .ok (.aload_n 0, 1) := by decide +kernel
theorem d_M_taken_64 : decode b_M_taken 64 = .ok (.getfield 134, 3) := by decide +kernel
theorem d_M_taken_67 : decode b_M_taken 67 = .ok (.iload_n 1, 1) := by decide +kernel
theorem d_M_taken_68 : decode b_M_taken 68 = .ok (.iaload, 1) := by decide +kernel
theorem d_M_taken_69 : decode b_M_taken 69 = .ok (.iaload, 1) := by decide +kernel
theorem d_M_taken_70 : decode b_M_taken 70 = .ok (.goto 5, 3) := by decide +kernel
theorem d_M_taken_73 : decode b_M_taken 73 = .ok (.bipush (-12), 2) := by decide +kernel
theorem d_M_taken_75 : decode b_M_taken 75 = .ok (.ireturn, 1) := by decide +kernel
theorem d_M_test_0 : decode b_M_test 0 = .ok (.aload_n 0, 1) := by decide +kernel
theorem d_M_test_1 : decode b_M_test 1 = .ok (.iload_n 1, 1) := by decide +kernel
theorem d_M_test_2 : decode b_M_test 2 = .ok (.invokevirtual 289, 3) := by decide +kernel
theorem d_M_test_5 : decode b_M_test 5 = .ok (.ifCond .eq 17, 3) := by decide +kernel
theorem d_M_test_8 : decode b_M_test 8 = .ok (.iload_n 2, 1) := by decide +kernel
theorem d_M_test_9 : decode b_M_test 9 = .ok (.invokestatic 305, 3) := by decide +kernel
theorem d_M_test_12 : decode b_M_test 12 = .ok (.ifCond .eq 10, 3) := by decide +kernel
theorem d_M_test_15 : decode b_M_test 15 = .ok (.iload_n 2, 1) := by decide +kernel
theorem d_M_test_16 : decode b_M_test 16 = .ok (.bipush 100, 2) := by decide +kernel
theorem d_M_test_18 : decode b_M_test 18 = .ok (.irem, 1) := by decide +kernel
theorem d_M_test_19 : decode b_M_test 19 = .ok (.ifCond .ne 5, 3) := by decide +kernel
theorem d_M_test_22 : decode b_M_test 22 = .ok (.iconst (-1), 1) := by decide +kernel
theorem d_M_test_23 : decode b_M_test 23 = .ok (.ireturn, 1) := by decide +kernel
theorem d_M_test_24 : decode b_M_test 24 = .ok (.iconst 0, 1) := by decide +kernel
theorem d_M_test_25 : decode b_M_test 25 = .ok (.istore_n 3, 1) := by decide +kernel
theorem d_M_test_26 : decode b_M_test 26 = .ok (.iconst 0, 1) := by decide +kernel
theorem d_M_test_27 : decode b_M_test 27 = .ok (.istore 4, 2) := by decide +kernel
theorem d_M_test_29 : decode b_M_test 29 = .ok (.iload 4, 2) := by decide +kernel
theorem d_M_test_31 : decode b_M_test 31 = .ok (.aload_n 0, 1) := by decide +kernel
theorem d_M_test_32 : decode b_M_test 32 = .ok (.getfield 150, 3) := by decide +kernel
theorem d_M_test_35 : decode b_M_test 35 = .ok (.if_icmp .ge 53, 3) := by decide +kernel
theorem d_M_test_38 : decode b_M_test 38 = .ok (.iload_n 1, 1) := by decide +kernel
theorem d_M_test_39 : decode b_M_test 39 = .ok (.iload 4, 2) := by decide +kernel
theorem d_M_test_41 : decode b_M_test 41 = .ok (.ishr, 1) := by decide +kernel
theorem d_M_test_42 : decode b_M_test 42 = .ok (.iconst 1, 1) := by decide +kernel
theorem d_M_test_43 : decode b_M_test 43 = .ok (.iand, 1) := by decide +kernel
theorem d_M_test_44 : decode b_M_test 44 = .ok (.iconst 1, 1) := by decide +kernel
theorem d_M_test_45 : decode b_M_test 45 = .ok (.if_icmp .ne 37, 3) := by decide +kernel
theorem d_M_test_48 : decode b_M_test 48 = .ok (.aload_n 0, 1) := by decide +kernel
theorem d_M_test_49 : decode b_M_test 49 = .ok (.iload 4, 2) := by decide +kernel
theorem d_M_test_51 : decode b_M_test 51 = .ok (.iconst 3, 1) := by decide +kernel
theorem d_M_test_52 : decode b_M_test 52 = .ok (.invokevirtual 274, 3) := by decide +kernel
theorem d_M_test_55 : decode b_M_test 55 = .ok (.iload_n 2, 1) := by decide +kernel
theorem d_M_test_56 : decode b_M_test 56 = .ok (.bipush 100, 2) := by decide +kernel
theorem d_M_test_58 : decode b_M_test 58 = .ok (.irem, 1) := by decide +kernel
theorem d_M_test_59 : decode b_M_test 59 = .ok (.if_icmp .ge 23, 3) := by decide +kernel
theorem d_M_test_62 : decode b_M_test 62 = .ok (.aload_n 0, 1) := by decide +kernel
theorem d_M_test_63 : decode b_M_test 63 = .ok (.iload 4, 2) := by decide +kernel
theorem d_M_test_65 : decode b_M_test 65 = .ok (.iload_n 2, 1) := by decide +kernel
theorem d_M_test_66 : decode b_M_test 66 = .ok (.bipush 100, 2) := by decide +kernel
theorem d_M_test_68 : decode b_M_test 68 = .ok (.idiv, 1) := by decide +kernel
theorem d_M_test_69 : decode b_M_test 69 = .ok (.invokevirtual 274, 3) := by decide +kernel
theorem d_M_test_72 : decode b_M_test 72 = .ok (.ifCond .le 10, 3) := by decide +kernel
theorem d_M_test_75 : decode b_M_test 75 = .ok (.iload_n 3, 1) := by decide +kernel
theorem d_M_test_76 : decode b_M_test 76 = .ok (.iconst 1, 1) := by decide +kernel
theorem d_M_test_77 : decode b_M_test 77 = .ok (.iload 4, 2) := by decide +kernel
theorem d_M_test_79 : decode b_M_test 79 = .ok (.ishl, 1) := by decide +kernel
theorem d_M_test_80 : decode b_M_test 80 = .ok (.ior, 1) := by decide +kernel
theorem d_M_test_81 : decode b_M_test 81 = .ok (.istore_n 3, 1) := by decide +kernel
theorem d_M_test_82 : decode b_M_test 82 = .ok (.iinc 4 1, 3) := by decide +kernel
theorem d_M_test_85 : decode b_M_test 85 = .ok (.goto (-56), 3) := by decide +kernel
theorem d_M_test_88 : decode b_M_test 88 = .ok (.iload_n 3, 1) := by decide +kernel
theorem d_M_test_89 : decode b_M_test 89 = .ok (.ireturn, 1) := by decide +kernel
