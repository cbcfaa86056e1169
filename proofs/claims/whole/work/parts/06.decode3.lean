/-! decode rows -/
theorem dX12_shared_57 : decode cX12_shared 57 = .ok (.if_icmp .ne 7, 3) := by decide +kernel
theorem dX12_shared_60 : decode cX12_shared 60 = .ok (.iconst 1, 1) := by decide +kernel
theorem dX12_shared_61 : decode cX12_shared 61 = .ok (.goto 4, 3) := by decide +kernel
theorem dX12_shared_64 : decode cX12_shared 64 = .ok (.iconst 0, 1) := by decide +kernel
theorem dX12_shared_65 : decode cX12_shared 65 = .ok (.invokestatic 304, 3) := by decide +kernel
theorem dX12_shared_68 : decode cX12_shared 68 = .ok (.iadd, 1) := by decide +kernel
theorem dX12_shared_69 : decode cX12_shared 69 = .ok (.istore_n 3, 1) := by decide +kernel
theorem dX12_shared_70 : decode cX12_shared 70 = .ok (.iinc 4 1, 3) := by decide +kernel
theorem dX12_shared_73 : decode cX12_shared 73 = .ok (.goto (-50), 3) := by decide +kernel
theorem dX12_shared_76 : decode cX12_shared 76 = .ok (.iload_n 3, 1) := by decide +kernel
theorem dX12_shared_77 : decode cX12_shared 77 = .ok (.ireturn, 1) := by decide +kernel
theorem dX12_writtenAll_0 : decode cX12_writtenAll 0 = .ok (.iconst 0, 1) := by decide +kernel
theorem dX12_writtenAll_1 : decode cX12_writtenAll 1 = .ok (.istore_n 1, 1) := by decide +kernel
theorem dX12_writtenAll_2 : decode cX12_writtenAll 2 = .ok (.iconst 0, 1) := by decide +kernel
theorem dX12_writtenAll_3 : decode cX12_writtenAll 3 = .ok (.istore_n 2, 1) := by decide +kernel
theorem dX12_writtenAll_4 : decode cX12_writtenAll 4 = .ok (.iload_n 2, 1) := by decide +kernel
theorem dX12_writtenAll_5 : decode cX12_writtenAll 5 = .ok (.aload_n 0, 1) := by decide +kernel
theorem dX12_writtenAll_6 : decode cX12_writtenAll 6 = .ok (.invokevirtual 469, 3) := by decide +kernel
theorem dX12_writtenAll_9 : decode cX12_writtenAll 9 = .ok (.if_icmp .ge 21, 3) := by decide +kernel
theorem dX12_writtenAll_12 : decode cX12_writtenAll 12 = .ok (.iload_n 1, 1) := by decide +kernel
theorem dX12_writtenAll_13 : decode cX12_writtenAll 13 = .ok (.aload_n 0, 1) := by decide +kernel
theorem dX12_writtenAll_14 : decode cX12_writtenAll 14 = .ok (.iload_n 2, 1) := by decide +kernel
theorem dX12_writtenAll_15 : decode cX12_writtenAll 15 = .ok (.aload_n 0, 1) := by decide +kernel
theorem dX12_writtenAll_16 : decode cX12_writtenAll 16 = .ok (.getfield 383, 3) := by decide +kernel
theorem dX12_writtenAll_19 : decode cX12_writtenAll 19 = .ok (.invokevirtual 417, 3) := by decide +kernel
theorem dX12_writtenAll_22 : decode cX12_writtenAll 22 = .ok (.iadd, 1) := by decide +kernel
theorem dX12_writtenAll_23 : decode cX12_writtenAll 23 = .ok (.istore_n 1, 1) := by decide +kernel
theorem dX12_writtenAll_24 : decode cX12_writtenAll 24 = .ok (.iinc 2 1, 3) := by decide +kernel
theorem dX12_writtenAll_27 : decode cX12_writtenAll 27 = .ok (.goto (-23), 3) := by decide +kernel
theorem dX12_writtenAll_30 : decode cX12_writtenAll 30 = .ok (.iload_n 1, 1) := by decide +kernel
theorem dX12_writtenAll_31 : decode cX12_writtenAll 31 = .ok (.ireturn, 1) := by decide +kernel
theorem dX12_written_0 : decode cX12_written 0 = .ok (.aload_n 0, 1) := by decide +kernel
theorem dX12_written_1 : decode cX12_written 1 = .ok (.invokevirtual 542, 3) := by decide +kernel
theorem dX12_written_4 : decode cX12_written 4 = .ok (.ireturn, 1) := by decide +kernel
theorem dX12_isCopy_0 : decode cX12_isCopy 0 = .ok (.aload_n 0, 1) := by decide +kernel
theorem dX12_isCopy_1 : decode cX12_isCopy 1 = .ok (.aload_n 0, 1) := by decide +kernel
theorem dX12_isCopy_2 : decode cX12_isCopy 2 = .ok (.getfield 75, 3) := by decide +kernel
theorem dX12_isCopy_5 : decode cX12_isCopy 5 = .ok (.sipush 525, 3) := by decide +kernel
theorem dX12_isCopy_8 : decode cX12_isCopy 8 = .ok (.iload_n 1, 1) := by decide +kernel
theorem dX12_isCopy_9 : decode cX12_isCopy 9 = .ok (.iadd, 1) := by decide +kernel
theorem dX12_isCopy_10 : decode cX12_isCopy 10 = .ok (.iaload, 1) := by decide +kernel
theorem dX12_isCopy_11 : decode cX12_isCopy 11 = .ok (.iconst 1, 1) := by decide +kernel
theorem dX12_isCopy_12 : decode cX12_isCopy 12 = .ok (.isub, 1) := by decide +kernel
theorem dX12_isCopy_13 : decode cX12_isCopy 13 = .ok (.invokevirtual 420, 3) := by decide +kernel
theorem dX12_isCopy_16 : decode cX12_isCopy 16 = .ok (.aload_n 0, 1) := by decide +kernel
theorem dX12_isCopy_17 : decode cX12_isCopy 17 = .ok (.getfield 75, 3) := by decide +kernel
theorem dX12_isCopy_20 : decode cX12_isCopy 20 = .ok (.sipush 205, 3) := by decide +kernel
theorem dX12_isCopy_23 : decode cX12_isCopy 23 = .ok (.iload_n 1, 1) := by decide +kernel
theorem dX12_isCopy_24 : decode cX12_isCopy 24 = .ok (.iadd, 1) := by decide +kernel
theorem dX12_isCopy_25 : decode cX12_isCopy 25 = .ok (.iaload, 1) := by decide +kernel
theorem dX12_isCopy_26 : decode cX12_isCopy 26 = .ok (.invokestatic 423, 3) := by decide +kernel
theorem dX12_isCopy_29 : decode cX12_isCopy 29 = .ok (.ireturn, 1) := by decide +kernel
theorem dX12_copiesOf_0 : decode cX12_copiesOf 0 = .ok (.iconst 0, 1) := by decide +kernel
theorem dX12_copiesOf_1 : decode cX12_copiesOf 1 = .ok (.istore_n 2, 1) := by decide +kernel
theorem dX12_copiesOf_2 : decode cX12_copiesOf 2 = .ok (.iconst 0, 1) := by decide +kernel
theorem dX12_copiesOf_3 : decode cX12_copiesOf 3 = .ok (.istore_n 3, 1) := by decide +kernel
theorem dX12_copiesOf_4 : decode cX12_copiesOf 4 = .ok (.iload_n 3, 1) := by decide +kernel
theorem dX12_copiesOf_5 : decode cX12_copiesOf 5 = .ok (.aload_n 0, 1) := by decide +kernel
theorem dX12_copiesOf_6 : decode cX12_copiesOf 6 = .ok (.invokevirtual 469, 3) := by decide +kernel
theorem dX12_copiesOf_9 : decode cX12_copiesOf 9 = .ok (.if_icmp .ge 46, 3) := by decide +kernel
theorem dX12_copiesOf_12 : decode cX12_copiesOf 12 = .ok (.iload_n 2, 1) := by decide +kernel
theorem dX12_copiesOf_13 : decode cX12_copiesOf 13 = .ok (.aload_n 0, 1) := by decide +kernel
theorem dX12_copiesOf_14 : decode cX12_copiesOf 14 = .ok (.iload_n 3, 1) := by decide +kernel
theorem dX12_copiesOf_15 : decode cX12_copiesOf 15 = .ok (.invokevirtual 545, 3) := by decide +kernel
theorem dX12_copiesOf_18 : decode cX12_copiesOf 18 = .ok (.ifCond .eq 25, 3) := by decide +kernel
theorem dX12_copiesOf_21 : decode cX12_copiesOf 21 = .ok (.iload_n 1, 1) := by decide +kernel
theorem dX12_copiesOf_22 : decode cX12_copiesOf 22 = .ok (.ifCond .lt 17, 3) := by decide +kernel
theorem dX12_copiesOf_25 : decode cX12_copiesOf 25 = .ok (.aload_n 0, 1) := by decide +kernel
theorem dX12_copiesOf_26 : decode cX12_copiesOf 26 = .ok (.getfield 75, 3) := by decide +kernel
theorem dX12_copiesOf_29 : decode cX12_copiesOf 29 = .ok (.sipush 205, 3) := by decide +kernel
theorem dX12_copiesOf_32 : decode cX12_copiesOf 32 = .ok (.iload_n 3, 1) := by decide +kernel
theorem dX12_copiesOf_33 : decode cX12_copiesOf 33 = .ok (.iadd, 1) := by decide +kernel
theorem dX12_copiesOf_34 : decode cX12_copiesOf 34 = .ok (.iaload, 1) := by decide +kernel
theorem dX12_copiesOf_35 : decode cX12_copiesOf 35 = .ok (.iload_n 1, 1) := by decide +kernel
theorem dX12_copiesOf_36 : decode cX12_copiesOf 36 = .ok (.if_icmp .ne 7, 3) := by decide +kernel
theorem dX12_copiesOf_39 : decode cX12_copiesOf 39 = .ok (.iconst 1, 1) := by decide +kernel
theorem dX12_copiesOf_40 : decode cX12_copiesOf 40 = .ok (.goto 4, 3) := by decide +kernel
theorem dX12_copiesOf_43 : decode cX12_copiesOf 43 = .ok (.iconst 0, 1) := by decide +kernel
theorem dX12_copiesOf_44 : decode cX12_copiesOf 44 = .ok (.invokestatic 304, 3) := by decide +kernel
theorem dX12_copiesOf_47 : decode cX12_copiesOf 47 = .ok (.iadd, 1) := by decide +kernel
theorem dX12_copiesOf_48 : decode cX12_copiesOf 48 = .ok (.istore_n 2, 1) := by decide +kernel
theorem dX12_copiesOf_49 : decode cX12_copiesOf 49 = .ok (.iinc 3 1, 3) := by decide +kernel
theorem dX12_copiesOf_52 : decode cX12_copiesOf 52 = .ok (.goto (-48), 3) := by decide +kernel
theorem dX12_copiesOf_55 : decode cX12_copiesOf 55 = .ok (.iload_n 2, 1) := by decide +kernel
theorem dX12_copiesOf_56 : decode cX12_copiesOf 56 = .ok (.ireturn, 1) := by decide +kernel
theorem dX12_copies_0 : decode cX12_copies 0 = .ok (.iload_n 1, 1) := by decide +kernel
theorem dX12_copies_1 : decode cX12_copies 1 = .ok (.iconst (-1), 1) := by decide +kernel
theorem dX12_copies_2 : decode cX12_copies 2 = .ok (.if_icmp .eq 11, 3) := by decide +kernel
theorem dX12_copies_5 : decode cX12_copies 5 = .ok (.aload_n 0, 1) := by decide +kernel
theorem dX12_copies_6 : decode cX12_copies 6 = .ok (.iload_n 1, 1) := by decide +kernel
theorem dX12_copies_7 : decode cX12_copies 7 = .ok (.invokevirtual 408, 3) := by decide +kernel
theorem dX12_copies_10 : decode cX12_copies 10 = .ok (.ifCond .eq 11, 3) := by decide +kernel
theorem dX12_copies_13 : decode cX12_copies 13 = .ok (.aload_n 0, 1) := by decide +kernel
theorem dX12_copies_14 : decode cX12_copies 14 = .ok (.iload_n 1, 1) := by decide +kernel
theorem dX12_copies_15 : decode cX12_copies 15 = .ok (.invokevirtual 548, 3) := by decide +kernel
theorem dX12_copies_18 : decode cX12_copies 18 = .ok (.goto 5, 3) := by decide +kernel
theorem dX12_copies_21 : decode cX12_copies 21 = .ok (.bipush (-2), 2) := by decide +kernel
theorem dX12_copies_23 : decode cX12_copies 23 = .ok (.ireturn, 1) := by decide +kernel
theorem dX12_dearest_0 : decode cX12_dearest 0 = .ok (.iconst (-1), 1) := by decide +kernel
theorem dX12_dearest_1 : decode cX12_dearest 1 = .ok (.istore_n 1, 1) := by decide +kernel
theorem dX12_dearest_2 : decode cX12_dearest 2 = .ok (.iconst 1, 1) := by decide +kernel
theorem dX12_dearest_3 : decode cX12_dearest 3 = .ok (.istore_n 2, 1) := by decide +kernel
theorem dX12_dearest_4 : decode cX12_dearest 4 = .ok (.iload_n 2, 1) := by decide +kernel
theorem dX12_dearest_5 : decode cX12_dearest 5 = .ok (.aload_n 0, 1) := by decide +kernel
theorem dX12_dearest_6 : decode cX12_dearest 6 = .ok (.getfield 383, 3) := by decide +kernel
theorem dX12_dearest_9 : decode cX12_dearest 9 = .ok (.if_icmp .gt 28, 3) := by decide +kernel
theorem dX12_dearest_12 : decode cX12_dearest 12 = .ok (.iload_n 1, 1) := by decide +kernel
theorem dX12_dearest_13 : decode cX12_dearest 13 = .ok (.ifCond .lt 16, 3) := by decide +kernel
theorem dX12_dearest_16 : decode cX12_dearest 16 = .ok (.aload_n 0, 1) := by decide +kernel
theorem dX12_dearest_17 : decode cX12_dearest 17 = .ok (.iload_n 2, 1) := by decide +kernel
theorem dX12_dearest_18 : decode cX12_dearest 18 = .ok (.invokevirtual 500, 3) := by decide +kernel
theorem dX12_dearest_21 : decode cX12_dearest 21 = .ok (.aload_n 0, 1) := by decide +kernel
theorem dX12_dearest_22 : decode cX12_dearest 22 = .ok (.iload_n 1, 1) := by decide +kernel
theorem dX12_dearest_23 : decode cX12_dearest 23 = .ok (.invokevirtual 500, 3) := by decide +kernel
theorem dX12_dearest_26 : decode cX12_dearest 26 = .ok (.if_icmp .le 5, 3) := by decide +kernel
theorem dX12_dearest_29 : decode cX12_dearest 29 = .ok (.iload_n 2, 1) := by decide +kernel
theorem dX12_dearest_30 : decode cX12_dearest 30 = .ok (.istore_n 1, 1) := by decide +kernel
theorem dX12_dearest_31 : decode cX12_dearest 31 = .ok (.iinc 2 1, 3) := by decide +kernel
theorem dX12_dearest_34 : decode cX12_dearest 34 = .ok (.goto (-30), 3) := by decide +kernel
theorem dX12_dearest_37 : decode cX12_dearest 37 = .ok (.iload_n 1, 1) := by decide +kernel
theorem dX12_dearest_38 : decode cX12_dearest 38 = .ok (.ireturn, 1) := by decide +kernel
theorem dX12_paid_0 : decode cX12_paid 0 = .ok (.iconst 0, 1) := by decide +kernel
theorem dX12_paid_1 : decode cX12_paid 1 = .ok (.aload_n 0, 1) := by decide +kernel
theorem dX12_paid_2 : decode cX12_paid 2 = .ok (.invokevirtual 542, 3) := by decide +kernel
theorem dX12_paid_5 : decode cX12_paid 5 = .ok (.aload_n 0, 1) := by decide +kernel
theorem dX12_paid_6 : decode cX12_paid 6 = .ok (.iconst (-1), 1) := by decide +kernel
theorem dX12_paid_7 : decode cX12_paid 7 = .ok (.invokevirtual 548, 3) := by decide +kernel
theorem dX12_paid_10 : decode cX12_paid 10 = .ok (.aload_n 0, 1) := by decide +kernel
theorem dX12_paid_11 : decode cX12_paid 11 = .ok (.getfield 69, 3) := by decide +kernel
theorem dX12_paid_14 : decode cX12_paid 14 = .ok (.iconst 1, 1) := by decide +kernel
theorem dX12_paid_15 : decode cX12_paid 15 = .ok (.isub, 1) := by decide +kernel
theorem dX12_paid_16 : decode cX12_paid 16 = .ok (.imul, 1) := by decide +kernel
theorem dX12_paid_17 : decode cX12_paid 17 = .ok (.isub, 1) := by decide +kernel
theorem dX12_paid_18 : decode cX12_paid 18 = .ok (.invokestatic 324, 3) := by decide +kernel
theorem dX12_paid_21 : decode cX12_paid 21 = .ok (.ireturn, 1) := by decide +kernel
theorem dX12_credit_0 : decode cX12_credit 0 = .ok (.iconst 0, 1) := by decide +kernel
theorem dX12_credit_1 : decode cX12_credit 1 = .ok (.istore_n 1, 1) := by decide +kernel
theorem dX12_credit_2 : decode cX12_credit 2 = .ok (.iconst 0, 1) := by decide +kernel
theorem dX12_credit_3 : decode cX12_credit 3 = .ok (.istore_n 2, 1) := by decide +kernel
theorem dX12_credit_4 : decode cX12_credit 4 = .ok (.iload_n 2, 1) := by decide +kernel
theorem dX12_credit_5 : decode cX12_credit 5 = .ok (.aload_n 0, 1) := by decide +kernel
theorem dX12_credit_6 : decode cX12_credit 6 = .ok (.invokevirtual 469, 3) := by decide +kernel
theorem dX12_credit_9 : decode cX12_credit 9 = .ok (.if_icmp .ge 33, 3) := by decide +kernel
theorem dX12_credit_12 : decode cX12_credit 12 = .ok (.iload_n 1, 1) := by decide +kernel
theorem dX12_credit_13 : decode cX12_credit 13 = .ok (.aload_n 0, 1) := by decide +kernel
theorem dX12_credit_14 : decode cX12_credit 14 = .ok (.iload_n 2, 1) := by decide +kernel
theorem dX12_credit_15 : decode cX12_credit 15 = .ok (.invokevirtual 503, 3) := by decide +kernel
theorem dX12_credit_18 : decode cX12_credit 18 = .ok (.ifCond .eq 15, 3) := by decide +kernel
theorem dX12_credit_21 : decode cX12_credit 21 = .ok (.aload_n 0, 1) := by decide +kernel
theorem dX12_credit_22 : decode cX12_credit 22 = .ok (.iload_n 2, 1) := by decide +kernel
theorem dX12_credit_23 : decode cX12_credit 23 = .ok (.aload_n 0, 1) := by decide +kernel
theorem dX12_credit_24 : decode cX12_credit 24 = .ok (.getfield 383, 3) := by decide +kernel
theorem dX12_credit_27 : decode cX12_credit 27 = .ok (.invokevirtual 417, 3) := by decide +kernel
theorem dX12_credit_30 : decode cX12_credit 30 = .ok (.goto 4, 3) := by decide +kernel
theorem dX12_credit_33 : decode cX12_credit 33 = .ok (.iconst 0, 1) := by decide +kernel
theorem dX12_credit_34 : decode cX12_credit 34 = .ok (.iadd, 1) := by decide +kernel
theorem dX12_credit_35 : decode cX12_credit 35 = .ok (.istore_n 1, 1) := by decide +kernel
theorem dX12_credit_36 : decode cX12_credit 36 = .ok (.iinc 2 1, 3) := by decide +kernel
theorem dX12_credit_39 : decode cX12_credit 39 = .ok (.goto (-35), 3) := by decide +kernel
theorem dX12_credit_42 : decode cX12_credit 42 = .ok (.iload_n 1, 1) := by decide +kernel
theorem dX12_credit_43 : decode cX12_credit 43 = .ok (.ireturn, 1) := by decide +kernel
theorem dX12_simNodeOf_0 : decode cX12_simNodeOf 0 = .ok (.iload_n 1, 1) := by decide +kernel
theorem dX12_simNodeOf_1 : decode cX12_simNodeOf 1 = .ok (.ifCond .ge 7, 3) := by decide +kernel
theorem dX12_simNodeOf_4 : decode cX12_simNodeOf 4 = .ok (.iconst (-1), 1) := by decide +kernel
theorem dX12_simNodeOf_5 : decode cX12_simNodeOf 5 = .ok (.goto 9, 3) := by decide +kernel
theorem dX12_simNodeOf_8 : decode cX12_simNodeOf 8 = .ok (.aload_n 0, 1) := by decide +kernel
theorem dX12_simNodeOf_9 : decode cX12_simNodeOf 9 = .ok (.getfield 108, 3) := by decide +kernel
theorem dX12_simNodeOf_12 : decode cX12_simNodeOf 12 = .ok (.iload_n 1, 1) := by decide +kernel
theorem dX12_simNodeOf_13 : decode cX12_simNodeOf 13 = .ok (.iaload, 1) := by decide +kernel
theorem dX12_simNodeOf_14 : decode cX12_simNodeOf 14 = .ok (.ireturn, 1) := by decide +kernel
theorem dX12_isSimCopied_0 : decode cX12_isSimCopied 0 = .ok (.aload_n 0, 1) := by decide +kernel
theorem dX12_isSimCopied_1 : decode cX12_isSimCopied 1 = .ok (.aload_n 0, 1) := by decide +kernel
theorem dX12_isSimCopied_2 : decode cX12_isSimCopied 2 = .ok (.getfield 81, 3) := by decide +kernel
theorem dX12_isSimCopied_5 : decode cX12_isSimCopied 5 = .ok (.iload_n 1, 1) := by decide +kernel
theorem dX12_isSimCopied_6 : decode cX12_isSimCopied 6 = .ok (.iaload, 1) := by decide +kernel
theorem dX12_isSimCopied_7 : decode cX12_isSimCopied 7 = .ok (.invokevirtual 551, 3) := by decide +kernel
theorem dX12_isSimCopied_10 : decode cX12_isSimCopied 10 = .ok (.istore 4, 2) := by decide +kernel
theorem dX12_isSimCopied_12 : decode cX12_isSimCopied 12 = .ok (.aload_n 0, 1) := by decide +kernel
theorem dX12_isSimCopied_13 : decode cX12_isSimCopied 13 = .ok (.aload_n 0, 1) := by decide +kernel
theorem dX12_isSimCopied_14 : decode cX12_isSimCopied 14 = .ok (.getfield 84, 3) := by decide +kernel
theorem dX12_isSimCopied_17 : decode cX12_isSimCopied 17 = .ok (.iload_n 1, 1) := by decide +kernel
theorem dX12_isSimCopied_18 : decode cX12_isSimCopied 18 = .ok (.iaload, 1) := by decide +kernel
theorem dX12_isSimCopied_19 : decode cX12_isSimCopied 19 = .ok (.invokevirtual 551, 3) := by decide +kernel
theorem dX12_isSimCopied_22 : decode cX12_isSimCopied 22 = .ok (.istore 5, 2) := by decide +kernel
theorem dX12_isSimCopied_24 : decode cX12_isSimCopied 24 = .ok (.aload_n 0, 1) := by decide +kernel
theorem dX12_isSimCopied_25 : decode cX12_isSimCopied 25 = .ok (.getfield 111, 3) := by decide +kernel
theorem dX12_isSimCopied_28 : decode cX12_isSimCopied 28 = .ok (.iload_n 1, 1) := by decide +kernel
theorem dX12_isSimCopied_29 : decode cX12_isSimCopied 29 = .ok (.iaload, 1) := by decide +kernel
theorem dX12_isSimCopied_30 : decode cX12_isSimCopied 30 = .ok (.iload 4, 2) := by decide +kernel
theorem dX12_isSimCopied_32 : decode cX12_isSimCopied 32 = .ok (.if_icmp .eq 7, 3) := by decide +kernel
theorem dX12_isSimCopied_35 : decode cX12_isSimCopied 35 = .ok (.iconst 1, 1) := by decide +kernel
theorem dX12_isSimCopied_36 : decode cX12_isSimCopied 36 = .ok (.goto 4, 3) := by decide +kernel
theorem dX12_isSimCopied_39 : decode cX12_isSimCopied 39 = .ok (.iconst 0, 1) := by decide +kernel
theorem dX12_isSimCopied_40 : decode cX12_isSimCopied 40 = .ok (.invokestatic 304, 3) := by decide +kernel
theorem dX12_isSimCopied_43 : decode cX12_isSimCopied 43 = .ok (.aload_n 0, 1) := by decide +kernel
theorem dX12_isSimCopied_44 : decode cX12_isSimCopied 44 = .ok (.getfield 114, 3) := by decide +kernel
theorem dX12_isSimCopied_47 : decode cX12_isSimCopied 47 = .ok (.iload_n 1, 1) := by decide +kernel
theorem dX12_isSimCopied_48 : decode cX12_isSimCopied 48 = .ok (.iaload, 1) := by decide +kernel
theorem dX12_isSimCopied_49 : decode cX12_isSimCopied 49 = .ok (.iload 5, 2) := by decide +kernel
theorem dX12_isSimCopied_51 : decode cX12_isSimCopied 51 = .ok (.if_icmp .eq 7, 3) := by decide +kernel
theorem dX12_isSimCopied_54 : decode cX12_isSimCopied 54 = .ok (.iconst 1, 1) := by decide +kernel
theorem dX12_isSimCopied_55 : decode cX12_isSimCopied 55 = .ok (.goto 4, 3) := by decide +kernel
theorem dX12_isSimCopied_58 : decode cX12_isSimCopied 58 = .ok (.iconst 0, 1) := by decide +kernel
theorem dX12_isSimCopied_59 : decode cX12_isSimCopied 59 = .ok (.invokestatic 304, 3) := by decide +kernel
theorem dX12_isSimCopied_62 : decode cX12_isSimCopied 62 = .ok (.iadd, 1) := by decide +kernel
theorem dX12_isSimCopied_63 : decode cX12_isSimCopied 63 = .ok (.istore 6, 2) := by decide +kernel
theorem dX12_isSimCopied_65 : decode cX12_isSimCopied 65 = .ok (.iload_n 2, 1) := by decide +kernel
theorem dX12_isSimCopied_66 : decode cX12_isSimCopied 66 = .ok (.ifCond .eq 16, 3) := by decide +kernel
theorem dX12_isSimCopied_69 : decode cX12_isSimCopied 69 = .ok (.aload_n 0, 1) := by decide +kernel
theorem dX12_isSimCopied_70 : decode cX12_isSimCopied 70 = .ok (.getfield 117, 3) := by decide +kernel
theorem dX12_isSimCopied_73 : decode cX12_isSimCopied 73 = .ok (.iload_n 1, 1) := by decide +kernel
theorem dX12_isSimCopied_74 : decode cX12_isSimCopied 74 = .ok (.iaload, 1) := by decide +kernel
theorem dX12_isSimCopied_75 : decode cX12_isSimCopied 75 = .ok (.iload 6, 2) := by decide +kernel
theorem dX12_isSimCopied_77 : decode cX12_isSimCopied 77 = .ok (.iadd, 1) := by decide +kernel
theorem dX12_isSimCopied_78 : decode cX12_isSimCopied 78 = .ok (.iload_n 3, 1) := by decide +kernel
theorem dX12_isSimCopied_79 : decode cX12_isSimCopied 79 = .ok (.if_icmp .le 7, 3) := by decide +kernel
theorem dX12_isSimCopied_82 : decode cX12_isSimCopied 82 = .ok (.iconst 1, 1) := by decide +kernel
theorem dX12_isSimCopied_83 : decode cX12_isSimCopied 83 = .ok (.goto 4, 3) := by decide +kernel
theorem dX12_isSimCopied_86 : decode cX12_isSimCopied 86 = .ok (.iconst 0, 1) := by decide +kernel
theorem dX12_isSimCopied_87 : decode cX12_isSimCopied 87 = .ok (.istore 7, 2) := by decide +kernel
theorem dX12_isSimCopied_89 : decode cX12_isSimCopied 89 = .ok (.aload_n 0, 1) := by decide +kernel
theorem dX12_isSimCopied_90 : decode cX12_isSimCopied 90 = .ok (.getfield 111, 3) := by decide +kernel
theorem dX12_isSimCopied_93 : decode cX12_isSimCopied 93 = .ok (.iload_n 1, 1) := by decide +kernel
theorem dX12_isSimCopied_94 : decode cX12_isSimCopied 94 = .ok (.iload 4, 2) := by decide +kernel
theorem dX12_isSimCopied_96 : decode cX12_isSimCopied 96 = .ok (.iastore, 1) := by decide +kernel
theorem dX12_isSimCopied_97 : decode cX12_isSimCopied 97 = .ok (.aload_n 0, 1) := by decide +kernel
theorem dX12_isSimCopied_98 : decode cX12_isSimCopied 98 = .ok (.getfield 114, 3) := by decide +kernel
theorem dX12_isSimCopied_101 : decode cX12_isSimCopied 101 = .ok (.iload_n 1, 1) := by decide +kernel
theorem dX12_isSimCopied_102 : decode cX12_isSimCopied 102 = .ok (.iload 5, 2) := by decide +kernel
theorem dX12_isSimCopied_104 : decode cX12_isSimCopied 104 = .ok (.iastore, 1) := by decide +kernel
theorem dX12_isSimCopied_105 : decode cX12_isSimCopied 105 = .ok (.aload_n 0, 1) := by decide +kernel
theorem dX12_isSimCopied_106 : decode cX12_isSimCopied 106 = .ok (.getfield 117, 3) := by decide +kernel
theorem dX12_isSimCopied_109 : decode cX12_isSimCopied 109 = .ok (.iload_n 1, 1) := by decide +kernel
theorem dX12_isSimCopied_110 : decode cX12_isSimCopied 110 = .ok (.iload 7, 2) := by decide +kernel
theorem dX12_isSimCopied_112 : decode cX12_isSimCopied 112 = .ok (.ifCond .eq 7, 3) := by decide +kernel
theorem dX12_isSimCopied_115 : decode cX12_isSimCopied 115 = .ok (.iconst 0, 1) := by decide +kernel
theorem dX12_isSimCopied_116 : decode cX12_isSimCopied 116 = .ok (.goto 12, 3) := by decide +kernel
theorem dX12_isSimCopied_119 : decode cX12_isSimCopied 119 = .ok (.aload_n 0, 1) := by decide +kernel
theorem dX12_isSimCopied_120 : decode cX12_isSimCopied 120 = .ok (.getfield 117, 3) := by decide +kernel
theorem dX12_isSimCopied_123 : decode cX12_isSimCopied 123 = .ok (.iload_n 1, 1) := by decide +kernel
theorem dX12_isSimCopied_124 : decode cX12_isSimCopied 124 = .ok (.iaload, 1) := by decide +kernel
theorem dX12_isSimCopied_125 : decode cX12_isSimCopied 125 = .ok (.iload 6, 2) := by decide +kernel
theorem dX12_isSimCopied_127 : decode cX12_isSimCopied 127 = .ok (.iadd, 1) := by decide +kernel
theorem dX12_isSimCopied_128 : decode cX12_isSimCopied 128 = .ok (.iastore, 1) := by decide +kernel
theorem dX12_isSimCopied_129 : decode cX12_isSimCopied 129 = .ok (.iload 7, 2) := by decide +kernel
theorem dX12_isSimCopied_131 : decode cX12_isSimCopied 131 = .ok (.ifCond .eq 23, 3) := by decide +kernel
theorem dX12_isSimCopied_134 : decode cX12_isSimCopied 134 = .ok (.aload_n 0, 1) := by decide +kernel
theorem dX12_isSimCopied_135 : decode cX12_isSimCopied 135 = .ok (.getfield 108, 3) := by decide +kernel
theorem dX12_isSimCopied_138 : decode cX12_isSimCopied 138 = .ok (.iload_n 1, 1) := by decide +kernel
theorem dX12_isSimCopied_139 : decode cX12_isSimCopied 139 = .ok (.aload_n 0, 1) := by decide +kernel
theorem dX12_isSimCopied_140 : decode cX12_isSimCopied 140 = .ok (.getfield 554, 3) := by decide +kernel
theorem dX12_isSimCopied_143 : decode cX12_isSimCopied 143 = .ok (.iastore, 1) := by decide +kernel
theorem dX12_isSimCopied_144 : decode cX12_isSimCopied 144 = .ok (.aload_n 0, 1) := by decide +kernel
theorem dX12_isSimCopied_145 : decode cX12_isSimCopied 145 = .ok (.dup, 1) := by decide +kernel
theorem dX12_isSimCopied_146 : decode cX12_isSimCopied 146 = .ok (.getfield 554, 3) := by decide +kernel
theorem dX12_isSimCopied_149 : decode cX12_isSimCopied 149 = .ok (.iconst 1, 1) := by decide +kernel
theorem dX12_isSimCopied_150 : decode cX12_isSimCopied 150 = .ok (.iadd, 1) := by decide +kernel
theorem dX12_isSimCopied_151 : decode cX12_isSimCopied 151 = .ok (.putfield 554, 3) := by decide +kernel
theorem dX12_isSimCopied_154 : decode cX12_isSimCopied 154 = .ok (.iload 7, 2) := by decide +kernel
theorem dX12_isSimCopied_156 : decode cX12_isSimCopied 156 = .ok (.ifCond .eq 11, 3) := by decide +kernel
theorem dX12_isSimCopied_159 : decode cX12_isSimCopied 159 = .ok (.iload_n 2, 1) := by decide +kernel
theorem dX12_isSimCopied_160 : decode cX12_isSimCopied 160 = .ok (.ifCond .eq 7, 3) := by decide +kernel
theorem dX12_isSimCopied_163 : decode cX12_isSimCopied 163 = .ok (.iconst 1, 1) := by decide +kernel
theorem dX12_isSimCopied_164 : decode cX12_isSimCopied 164 = .ok (.goto 4, 3) := by decide +kernel
theorem dX12_isSimCopied_167 : decode cX12_isSimCopied 167 = .ok (.iconst 0, 1) := by decide +kernel
theorem dX12_isSimCopied_168 : decode cX12_isSimCopied 168 = .ok (.ireturn, 1) := by decide +kernel
theorem dX12_law_0 : decode cX12_law 0 = .ok (.iload_n 1, 1) := by decide +kernel
theorem dX12_law_1 : decode cX12_law 1 = .ok (.iconst 1, 1) := by decide +kernel
theorem dX12_law_2 : decode cX12_law 2 = .ok (.bipush 6, 2) := by decide +kernel
theorem dX12_law_4 : decode cX12_law 4 = .ok (.invokestatic 398, 3) := by decide +kernel
theorem dX12_law_7 : decode cX12_law 7 = .ok (.ifCond .ne 5, 3) := by decide +kernel
theorem dX12_law_10 : decode cX12_law 10 = .ok (.iconst (-1), 1) := by decide +kernel
theorem dX12_law_11 : decode cX12_law 11 = .ok (.ireturn, 1) := by decide +kernel
theorem dX12_law_12 : decode cX12_law 12 = .ok (.aload_n 0, 1) := by decide +kernel
theorem dX12_law_13 : decode cX12_law 13 = .ok (.iconst 0, 1) := by decide +kernel
theorem dX12_law_14 : decode cX12_law 14 = .ok (.putfield 554, 3) := by decide +kernel
theorem dX12_law_17 : decode cX12_law 17 = .ok (.iconst 0, 1) := by decide +kernel
theorem dX12_law_18 : decode cX12_law 18 = .ok (.istore_n 2, 1) := by decide +kernel
theorem dX12_law_19 : decode cX12_law 19 = .ok (.iconst 1, 1) := by decide +kernel
theorem dX12_law_20 : decode cX12_law 20 = .ok (.istore_n 3, 1) := by decide +kernel
theorem dX12_law_21 : decode cX12_law 21 = .ok (.iload_n 3, 1) := by decide +kernel
theorem dX12_law_22 : decode cX12_law 22 = .ok (.aload_n 0, 1) := by decide +kernel
theorem dX12_law_23 : decode cX12_law 23 = .ok (.getfield 383, 3) := by decide +kernel
theorem dX12_law_26 : decode cX12_law 26 = .ok (.if_icmp .gt 67, 3) := by decide +kernel
theorem dX12_law_29 : decode cX12_law 29 = .ok (.aload_n 0, 1) := by decide +kernel
theorem dX12_law_30 : decode cX12_law 30 = .ok (.iload_n 3, 1) := by decide +kernel
theorem dX12_law_31 : decode cX12_law 31 = .ok (.invokevirtual 450, 3) := by decide +kernel
theorem dX12_law_34 : decode cX12_law 34 = .ok (.iconst 0, 1) := by decide +kernel
theorem dX12_law_35 : decode cX12_law 35 = .ok (.istore 4, 2) := by decide +kernel
theorem dX12_law_37 : decode cX12_law 37 = .ok (.iload 4, 2) := by decide +kernel
theorem dX12_law_39 : decode cX12_law 39 = .ok (.aload_n 0, 1) := by decide +kernel
theorem dX12_law_40 : decode cX12_law 40 = .ok (.getfield 426, 3) := by decide +kernel
theorem dX12_law_43 : decode cX12_law 43 = .ok (.if_icmp .ge 44, 3) := by decide +kernel
theorem dX12_law_46 : decode cX12_law 46 = .ok (.iload_n 2, 1) := by decide +kernel
theorem dX12_law_47 : decode cX12_law 47 = .ok (.aload_n 0, 1) := by decide +kernel
theorem dX12_law_48 : decode cX12_law 48 = .ok (.aload_n 0, 1) := by decide +kernel
theorem dX12_law_49 : decode cX12_law 49 = .ok (.getfield 93, 3) := by decide +kernel
theorem dX12_law_52 : decode cX12_law 52 = .ok (.iload 4, 2) := by decide +kernel
theorem dX12_law_54 : decode cX12_law 54 = .ok (.iaload, 1) := by decide +kernel
theorem dX12_law_55 : decode cX12_law 55 = .ok (.aload_n 0, 1) := by decide +kernel
theorem dX12_law_56 : decode cX12_law 56 = .ok (.iload_n 3, 1) := by decide +kernel
theorem dX12_law_57 : decode cX12_law 57 = .ok (.iconst 1, 1) := by decide +kernel
theorem dX12_law_58 : decode cX12_law 58 = .ok (.isub, 1) := by decide +kernel
theorem dX12_law_59 : decode cX12_law 59 = .ok (.invokevirtual 420, 3) := by decide +kernel
theorem dX12_law_62 : decode cX12_law 62 = .ok (.aload_n 0, 1) := by decide +kernel
theorem dX12_law_63 : decode cX12_law 63 = .ok (.getfield 93, 3) := by decide +kernel
theorem dX12_law_66 : decode cX12_law 66 = .ok (.iload 4, 2) := by decide +kernel
theorem dX12_law_68 : decode cX12_law 68 = .ok (.iaload, 1) := by decide +kernel
theorem dX12_law_69 : decode cX12_law 69 = .ok (.invokestatic 423, 3) := by decide +kernel
theorem dX12_law_72 : decode cX12_law 72 = .ok (.iload_n 1, 1) := by decide +kernel
theorem dX12_law_73 : decode cX12_law 73 = .ok (.invokevirtual 557, 3) := by decide +kernel
theorem dX12_law_76 : decode cX12_law 76 = .ok (.invokestatic 304, 3) := by decide +kernel
theorem dX12_law_79 : decode cX12_law 79 = .ok (.iadd, 1) := by decide +kernel
theorem dX12_law_80 : decode cX12_law 80 = .ok (.istore_n 2, 1) := by decide +kernel
theorem dX12_law_81 : decode cX12_law 81 = .ok (.iinc 4 1, 3) := by decide +kernel
theorem dX12_law_84 : decode cX12_law 84 = .ok (.goto (-47), 3) := by decide +kernel
theorem dX12_law_87 : decode cX12_law 87 = .ok (.iinc 3 1, 3) := by decide +kernel
theorem dX12_law_90 : decode cX12_law 90 = .ok (.goto (-69), 3) := by decide +kernel
theorem dX12_law_93 : decode cX12_law 93 = .ok (.iload_n 2, 1) := by decide +kernel
theorem dX12_law_94 : decode cX12_law 94 = .ok (.ireturn, 1) := by decide +kernel
theorem dX12_busiest_0 : decode cX12_busiest 0 = .ok (.iconst (-1), 1) := by decide +kernel
theorem dX12_busiest_1 : decode cX12_busiest 1 = .ok (.istore_n 1, 1) := by decide +kernel
theorem dX12_busiest_2 : decode cX12_busiest 2 = .ok (.iconst 0, 1) := by decide +kernel
theorem dX12_busiest_3 : decode cX12_busiest 3 = .ok (.istore_n 2, 1) := by decide +kernel
theorem dX12_busiest_4 : decode cX12_busiest 4 = .ok (.iload_n 2, 1) := by decide +kernel
theorem dX12_busiest_5 : decode cX12_busiest 5 = .ok (.aload_n 0, 1) := by decide +kernel
theorem dX12_busiest_6 : decode cX12_busiest 6 = .ok (.getfield 371, 3) := by decide +kernel
theorem dX12_busiest_9 : decode cX12_busiest 9 = .ok (.if_icmp .ge 28, 3) := by decide +kernel
theorem dX12_busiest_12 : decode cX12_busiest 12 = .ok (.iload_n 1, 1) := by decide +kernel
theorem dX12_busiest_13 : decode cX12_busiest 13 = .ok (.ifCond .lt 16, 3) := by decide +kernel
theorem dX12_busiest_16 : decode cX12_busiest 16 = .ok (.aload_n 0, 1) := by decide +kernel
theorem dX12_busiest_17 : decode cX12_busiest 17 = .ok (.iload_n 2, 1) := by decide +kernel
theorem dX12_busiest_18 : decode cX12_busiest 18 = .ok (.invokevirtual 548, 3) := by decide +kernel
theorem dX12_busiest_21 : decode cX12_busiest 21 = .ok (.aload_n 0, 1) := by decide +kernel
theorem dX12_busiest_22 : decode cX12_busiest 22 = .ok (.iload_n 1, 1) := by decide +kernel
theorem dX12_busiest_23 : decode cX12_busiest 23 = .ok (.invokevirtual 548, 3) := by decide +kernel
theorem dX12_busiest_26 : decode cX12_busiest 26 = .ok (.if_icmp .le 5, 3) := by decide +kernel
theorem dX12_busiest_29 : decode cX12_busiest 29 = .ok (.iload_n 2, 1) := by decide +kernel
theorem dX12_busiest_30 : decode cX12_busiest 30 = .ok (.istore_n 1, 1) := by decide +kernel
theorem dX12_busiest_31 : decode cX12_busiest 31 = .ok (.iinc 2 1, 3) := by decide +kernel
theorem dX12_busiest_34 : decode cX12_busiest 34 = .ok (.goto (-30), 3) := by decide +kernel
theorem dX12_busiest_37 : decode cX12_busiest 37 = .ok (.iload_n 1, 1) := by decide +kernel
theorem dX12_busiest_38 : decode cX12_busiest 38 = .ok (.ireturn, 1) := by decide +kernel
theorem dX12_widest_0 : decode cX12_widest 0 = .ok (.iconst 0, 1) := by decide +kernel
theorem dX12_widest_1 : decode cX12_widest 1 = .ok (.istore_n 1, 1) := by decide +kernel
theorem dX12_widest_2 : decode cX12_widest 2 = .ok (.iconst 1, 1) := by decide +kernel
theorem dX12_widest_3 : decode cX12_widest 3 = .ok (.istore_n 2, 1) := by decide +kernel
theorem dX12_widest_4 : decode cX12_widest 4 = .ok (.iload_n 2, 1) := by decide +kernel
theorem dX12_widest_5 : decode cX12_widest 5 = .ok (.aload_n 0, 1) := by decide +kernel
theorem dX12_widest_6 : decode cX12_widest 6 = .ok (.getfield 383, 3) := by decide +kernel
theorem dX12_widest_9 : decode cX12_widest 9 = .ok (.if_icmp .gt 34, 3) := by decide +kernel
theorem dX12_widest_12 : decode cX12_widest 12 = .ok (.aload_n 0, 1) := by decide +kernel
theorem dX12_widest_13 : decode cX12_widest 13 = .ok (.iload_n 2, 1) := by decide +kernel
theorem dX12_widest_14 : decode cX12_widest 14 = .ok (.invokevirtual 420, 3) := by decide +kernel
theorem dX12_widest_17 : decode cX12_widest 17 = .ok (.invokestatic 475, 3) := by decide +kernel
theorem dX12_widest_20 : decode cX12_widest 20 = .ok (.aload_n 0, 1) := by decide +kernel
theorem dX12_widest_21 : decode cX12_widest 21 = .ok (.iload_n 1, 1) := by decide +kernel
theorem dX12_widest_22 : decode cX12_widest 22 = .ok (.invokevirtual 420, 3) := by decide +kernel
theorem dX12_widest_25 : decode cX12_widest 25 = .ok (.invokestatic 475, 3) := by decide +kernel
theorem dX12_widest_28 : decode cX12_widest 28 = .ok (.if_icmp .le 7, 3) := by decide +kernel
theorem dX12_widest_31 : decode cX12_widest 31 = .ok (.iload_n 2, 1) := by decide +kernel
theorem dX12_widest_32 : decode cX12_widest 32 = .ok (.goto 4, 3) := by decide +kernel
theorem dX12_widest_35 : decode cX12_widest 35 = .ok (.iload_n 1, 1) := by decide +kernel
theorem dX12_widest_36 : decode cX12_widest 36 = .ok (.istore_n 1, 1) := by decide +kernel
theorem dX12_widest_37 : decode cX12_widest 37 = .ok (.iinc 2 1, 3) := by decide +kernel
theorem dX12_widest_40 : decode cX12_widest 40 = .ok (.goto (-36), 3) := by decide +kernel
theorem dX12_widest_43 : decode cX12_widest 43 = .ok (.iload_n 1, 1) := by decide +kernel
theorem dX12_widest_44 : decode cX12_widest 44 = .ok (.ireturn, 1) := by decide +kernel
theorem dX12_highest_0 : decode cX12_highest 0 = .ok (.iconst 0, 1) := by decide +kernel
theorem dX12_highest_1 : decode cX12_highest 1 = .ok (.istore_n 1, 1) := by decide +kernel
theorem dX12_highest_2 : decode cX12_highest 2 = .ok (.iconst 1, 1) := by decide +kernel
theorem dX12_highest_3 : decode cX12_highest 3 = .ok (.istore_n 2, 1) := by decide +kernel
theorem dX12_highest_4 : decode cX12_highest 4 = .ok (.iload_n 2, 1) := by decide +kernel
theorem dX12_highest_5 : decode cX12_highest 5 = .ok (.aload_n 0, 1) := by decide +kernel
theorem dX12_highest_6 : decode cX12_highest 6 = .ok (.getfield 383, 3) := by decide +kernel
theorem dX12_highest_9 : decode cX12_highest 9 = .ok (.if_icmp .gt 28, 3) := by decide +kernel
theorem dX12_highest_12 : decode cX12_highest 12 = .ok (.aload_n 0, 1) := by decide +kernel
theorem dX12_highest_13 : decode cX12_highest 13 = .ok (.iload_n 2, 1) := by decide +kernel
theorem dX12_highest_14 : decode cX12_highest 14 = .ok (.invokevirtual 561, 3) := by decide +kernel
theorem dX12_highest_17 : decode cX12_highest 17 = .ok (.aload_n 0, 1) := by decide +kernel
theorem dX12_highest_18 : decode cX12_highest 18 = .ok (.iload_n 1, 1) := by decide +kernel
theorem dX12_highest_19 : decode cX12_highest 19 = .ok (.invokevirtual 561, 3) := by decide +kernel
theorem dX12_highest_22 : decode cX12_highest 22 = .ok (.if_icmp .le 7, 3) := by decide +kernel
theorem dX12_highest_25 : decode cX12_highest 25 = .ok (.iload_n 2, 1) := by decide +kernel
theorem dX12_highest_26 : decode cX12_highest 26 = .ok (.goto 4, 3) := by decide +kernel
theorem dX12_highest_29 : decode cX12_highest 29 = .ok (.iload_n 1, 1) := by decide +kernel
theorem dX12_highest_30 : decode cX12_highest 30 = .ok (.istore_n 1, 1) := by decide +kernel
theorem dX12_highest_31 : decode cX12_highest 31 = .ok (.iinc 2 1, 3) := by decide +kernel
theorem dX12_highest_34 : decode cX12_highest 34 = .ok (.goto (-30), 3) := by decide +kernel
theorem dX12_highest_37 : decode cX12_highest 37 = .ok (.iload_n 1, 1) := by decide +kernel
theorem dX12_highest_38 : decode cX12_highest 38 = .ok (.ireturn, 1) := by decide +kernel
theorem dX12_stays_0 : decode cX12_stays 0 = .ok (.aload_n 0, 1) := by decide +kernel
theorem dX12_stays_1 : decode cX12_stays 1 = .ok (.iload_n 1, 1) := by decide +kernel
theorem dX12_stays_2 : decode cX12_stays 2 = .ok (.invokevirtual 408, 3) := by decide +kernel
theorem dX12_stays_5 : decode cX12_stays 5 = .ok (.ifCond .ne 5, 3) := by decide +kernel
theorem dX12_stays_8 : decode cX12_stays 8 = .ok (.iconst (-1), 1) := by decide +kernel
theorem dX12_stays_9 : decode cX12_stays 9 = .ok (.ireturn, 1) := by decide +kernel
theorem dX12_stays_10 : decode cX12_stays 10 = .ok (.iconst 0, 1) := by decide +kernel
theorem dX12_stays_11 : decode cX12_stays 11 = .ok (.istore_n 2, 1) := by decide +kernel
theorem dX12_stays_12 : decode cX12_stays 12 = .ok (.iconst 0, 1) := by decide +kernel
theorem dX12_stays_13 : decode cX12_stays 13 = .ok (.istore_n 3, 1) := by decide +kernel
theorem dX12_stays_14 : decode cX12_stays 14 = .ok (.iload_n 3, 1) := by decide +kernel
theorem dX12_stays_15 : decode cX12_stays 15 = .ok (.aload_n 0, 1) := by decide +kernel
theorem dX12_stays_16 : decode cX12_stays 16 = .ok (.getfield 383, 3) := by decide +kernel
theorem dX12_stays_19 : decode cX12_stays 19 = .ok (.if_icmp .gt 24, 3) := by decide +kernel
theorem dX12_stays_22 : decode cX12_stays 22 = .ok (.iload_n 2, 1) := by decide +kernel
theorem dX12_stays_23 : decode cX12_stays 23 = .ok (.aload_n 0, 1) := by decide +kernel
theorem dX12_stays_24 : decode cX12_stays 24 = .ok (.iload_n 3, 1) := by decide +kernel
theorem dX12_stays_25 : decode cX12_stays 25 = .ok (.invokevirtual 420, 3) := by decide +kernel
theorem dX12_stays_28 : decode cX12_stays 28 = .ok (.iload_n 1, 1) := by decide +kernel
theorem dX12_stays_29 : decode cX12_stays 29 = .ok (.invokestatic 423, 3) := by decide +kernel
theorem dX12_stays_32 : decode cX12_stays 32 = .ok (.invokestatic 304, 3) := by decide +kernel
theorem dX12_stays_35 : decode cX12_stays 35 = .ok (.iadd, 1) := by decide +kernel
theorem dX12_stays_36 : decode cX12_stays 36 = .ok (.istore_n 2, 1) := by decide +kernel
theorem dX12_stays_37 : decode cX12_stays 37 = .ok (.iinc 3 1, 3) := by decide +kernel
theorem dX12_stays_40 : decode cX12_stays 40 = .ok (.goto (-26), 3) := by decide +kernel
theorem dX12_stays_43 : decode cX12_stays 43 = .ok (.iload_n 2, 1) := by decide +kernel
theorem dX12_stays_44 : decode cX12_stays 44 = .ok (.ireturn, 1) := by decide +kernel
theorem dX12_nextTo_0 : decode cX12_nextTo 0 = .ok (.aload_n 0, 1) := by decide +kernel
theorem dX12_nextTo_1 : decode cX12_nextTo 1 = .ok (.iload_n 2, 1) := by decide +kernel
theorem dX12_nextTo_2 : decode cX12_nextTo 2 = .ok (.invokevirtual 420, 3) := by decide +kernel
theorem dX12_nextTo_5 : decode cX12_nextTo 5 = .ok (.iload_n 1, 1) := by decide +kernel
theorem dX12_nextTo_6 : decode cX12_nextTo 6 = .ok (.invokestatic 423, 3) := by decide +kernel
theorem dX12_nextTo_9 : decode cX12_nextTo 9 = .ok (.ifCond .ne 6, 3) := by decide +kernel
theorem dX12_nextTo_12 : decode cX12_nextTo 12 = .ok (.bipush (-2), 2) := by decide +kernel
theorem dX12_nextTo_14 : decode cX12_nextTo 14 = .ok (.ireturn, 1) := by decide +kernel
theorem dX12_nextTo_15 : decode cX12_nextTo 15 = .ok (.aload_n 0, 1) := by decide +kernel
theorem dX12_nextTo_16 : decode cX12_nextTo 16 = .ok (.aload_n 0, 1) := by decide +kernel
theorem dX12_nextTo_17 : decode cX12_nextTo 17 = .ok (.iload_n 2, 1) := by decide +kernel
theorem dX12_nextTo_18 : decode cX12_nextTo 18 = .ok (.invokevirtual 420, 3) := by decide +kernel
theorem dX12_nextTo_21 : decode cX12_nextTo 21 = .ok (.aload_n 0, 1) := by decide +kernel
theorem dX12_nextTo_22 : decode cX12_nextTo 22 = .ok (.iload_n 2, 1) := by decide +kernel
theorem dX12_nextTo_23 : decode cX12_nextTo 23 = .ok (.invokevirtual 429, 3) := by decide +kernel
theorem dX12_nextTo_26 : decode cX12_nextTo 26 = .ok (.invokevirtual 432, 3) := by decide +kernel
theorem dX12_nextTo_29 : decode cX12_nextTo 29 = .ok (.iconst (-1), 1) := by decide +kernel
theorem dX12_nextTo_30 : decode cX12_nextTo 30 = .ok (.istore 4, 2) := by decide +kernel
theorem dX12_nextTo_32 : decode cX12_nextTo 32 = .ok (.iconst 0, 1) := by decide +kernel
theorem dX12_nextTo_33 : decode cX12_nextTo 33 = .ok (.istore 5, 2) := by decide +kernel
theorem dX12_nextTo_35 : decode cX12_nextTo 35 = .ok (.iload 5, 2) := by decide +kernel
theorem dX12_nextTo_37 : decode cX12_nextTo 37 = .ok (.aload_n 0, 1) := by decide +kernel
theorem dX12_nextTo_38 : decode cX12_nextTo 38 = .ok (.getfield 426, 3) := by decide +kernel
theorem dX12_nextTo_41 : decode cX12_nextTo 41 = .ok (.if_icmp .ge 53, 3) := by decide +kernel
theorem dX12_nextTo_44 : decode cX12_nextTo 44 = .ok (.aload_n 0, 1) := by decide +kernel
theorem dX12_nextTo_45 : decode cX12_nextTo 45 = .ok (.getfield 78, 3) := by decide +kernel
theorem dX12_nextTo_48 : decode cX12_nextTo 48 = .ok (.iload 5, 2) := by decide +kernel
theorem dX12_nextTo_50 : decode cX12_nextTo 50 = .ok (.iaload, 1) := by decide +kernel
theorem dX12_nextTo_51 : decode cX12_nextTo 51 = .ok (.iload_n 1, 1) := by decide +kernel
theorem dX12_nextTo_52 : decode cX12_nextTo 52 = .ok (.if_icmp .ne 32, 3) := by decide +kernel
theorem dX12_nextTo_55 : decode cX12_nextTo 55 = .ok (.iload 5, 2) := by decide +kernel
theorem dX12_nextTo_57 : decode cX12_nextTo 57 = .ok (.iload_n 3, 1) := by decide +kernel
theorem dX12_nextTo_58 : decode cX12_nextTo 58 = .ok (.iadd, 1) := by decide +kernel
theorem dX12_nextTo_59 : decode cX12_nextTo 59 = .ok (.iconst 0, 1) := by decide +kernel
theorem dX12_nextTo_60 : decode cX12_nextTo 60 = .ok (.aload_n 0, 1) := by decide +kernel
theorem dX12_nextTo_61 : decode cX12_nextTo 61 = .ok (.getfield 426, 3) := by decide +kernel
theorem dX12_nextTo_64 : decode cX12_nextTo 64 = .ok (.iconst 1, 1) := by decide +kernel
theorem dX12_nextTo_65 : decode cX12_nextTo 65 = .ok (.isub, 1) := by decide +kernel
theorem dX12_nextTo_66 : decode cX12_nextTo 66 = .ok (.invokestatic 398, 3) := by decide +kernel
theorem dX12_nextTo_69 : decode cX12_nextTo 69 = .ok (.ifCond .eq 15, 3) := by decide +kernel
theorem dX12_nextTo_72 : decode cX12_nextTo 72 = .ok (.aload_n 0, 1) := by decide +kernel
theorem dX12_nextTo_73 : decode cX12_nextTo 73 = .ok (.getfield 78, 3) := by decide +kernel
theorem dX12_nextTo_76 : decode cX12_nextTo 76 = .ok (.iload 5, 2) := by decide +kernel
theorem dX12_nextTo_78 : decode cX12_nextTo 78 = .ok (.iload_n 3, 1) := by decide +kernel
theorem dX12_nextTo_79 : decode cX12_nextTo 79 = .ok (.iadd, 1) := by decide +kernel
theorem dX12_nextTo_80 : decode cX12_nextTo 80 = .ok (.iaload, 1) := by decide +kernel
theorem dX12_nextTo_81 : decode cX12_nextTo 81 = .ok (.goto 5, 3) := by decide +kernel
theorem dX12_nextTo_84 : decode cX12_nextTo 84 = .ok (.iload 4, 2) := by decide +kernel
theorem dX12_nextTo_86 : decode cX12_nextTo 86 = .ok (.istore 4, 2) := by decide +kernel
theorem dX12_nextTo_88 : decode cX12_nextTo 88 = .ok (.iinc 5 1, 3) := by decide +kernel
theorem dX12_nextTo_91 : decode cX12_nextTo 91 = .ok (.goto (-56), 3) := by decide +kernel
theorem dX12_nextTo_94 : decode cX12_nextTo 94 = .ok (.iload 4, 2) := by decide +kernel
theorem dX12_nextTo_96 : decode cX12_nextTo 96 = .ok (.ireturn, 1) := by decide +kernel
theorem dX12_sight_0 : decode cX12_sight 0 = .ok (.aload_n 0, 1) := by decide +kernel
theorem dX12_sight_1 : decode cX12_sight 1 = .ok (.iload_n 1, 1) := by decide +kernel
theorem dX12_sight_2 : decode cX12_sight 2 = .ok (.invokevirtual 408, 3) := by decide +kernel
theorem dX12_sight_5 : decode cX12_sight 5 = .ok (.ifCond .eq 12, 3) := by decide +kernel
theorem dX12_sight_8 : decode cX12_sight 8 = .ok (.iload_n 2, 1) := by decide +kernel
theorem dX12_sight_9 : decode cX12_sight 9 = .ok (.iconst 0, 1) := by decide +kernel
theorem dX12_sight_10 : decode cX12_sight 10 = .ok (.iconst 1, 1) := by decide +kernel
theorem dX12_sight_11 : decode cX12_sight 11 = .ok (.invokestatic 398, 3) := by decide +kernel
theorem dX12_sight_14 : decode cX12_sight 14 = .ok (.ifCond .ne 5, 3) := by decide +kernel
theorem dX12_sight_17 : decode cX12_sight 17 = .ok (.iconst (-1), 1) := by decide +kernel
theorem dX12_sight_18 : decode cX12_sight 18 = .ok (.ireturn, 1) := by decide +kernel
theorem dX12_sight_19 : decode cX12_sight 19 = .ok (.iconst 0, 1) := by decide +kernel
theorem dX12_sight_20 : decode cX12_sight 20 = .ok (.istore_n 3, 1) := by decide +kernel
theorem dX12_sight_21 : decode cX12_sight 21 = .ok (.iconst 0, 1) := by decide +kernel
theorem dX12_sight_22 : decode cX12_sight 22 = .ok (.istore 4, 2) := by decide +kernel
theorem dX12_sight_24 : decode cX12_sight 24 = .ok (.iload 4, 2) := by decide +kernel
theorem dX12_sight_26 : decode cX12_sight 26 = .ok (.aload_n 0, 1) := by decide +kernel
theorem dX12_sight_27 : decode cX12_sight 27 = .ok (.getfield 383, 3) := by decide +kernel
theorem dX12_sight_30 : decode cX12_sight 30 = .ok (.if_icmp .gt 43, 3) := by decide +kernel
theorem dX12_sight_33 : decode cX12_sight 33 = .ok (.aload_n 0, 1) := by decide +kernel
theorem dX12_sight_34 : decode cX12_sight 34 = .ok (.iload_n 1, 1) := by decide +kernel
theorem dX12_sight_35 : decode cX12_sight 35 = .ok (.iload 4, 2) := by decide +kernel
theorem dX12_sight_37 : decode cX12_sight 37 = .ok (.iload_n 2, 1) := by decide +kernel
theorem dX12_sight_38 : decode cX12_sight 38 = .ok (.ifCond .ne 7, 3) := by decide +kernel
theorem dX12_sight_41 : decode cX12_sight 41 = .ok (.iconst 1, 1) := by decide +kernel
theorem dX12_sight_42 : decode cX12_sight 42 = .ok (.goto 4, 3) := by decide +kernel
theorem dX12_sight_45 : decode cX12_sight 45 = .ok (.iconst (-1), 1) := by decide +kernel
theorem dX12_sight_46 : decode cX12_sight 46 = .ok (.invokevirtual 564, 3) := by decide +kernel
theorem dX12_sight_49 : decode cX12_sight 49 = .ok (.istore 5, 2) := by decide +kernel
theorem dX12_sight_51 : decode cX12_sight 51 = .ok (.iload_n 3, 1) := by decide +kernel
theorem dX12_sight_52 : decode cX12_sight 52 = .ok (.iload 5, 2) := by decide +kernel
theorem dX12_sight_54 : decode cX12_sight 54 = .ok (.ifCond .ge 7, 3) := by decide +kernel
theorem dX12_sight_57 : decode cX12_sight 57 = .ok (.iconst 0, 1) := by decide +kernel
theorem dX12_sight_58 : decode cX12_sight 58 = .ok (.goto 7, 3) := by decide +kernel
theorem dX12_sight_61 : decode cX12_sight 61 = .ok (.iconst 1, 1) := by decide +kernel
theorem dX12_sight_62 : decode cX12_sight 62 = .ok (.iload 5, 2) := by decide +kernel
theorem dX12_sight_64 : decode cX12_sight 64 = .ok (.ishl, 1) := by decide +kernel
theorem dX12_sight_65 : decode cX12_sight 65 = .ok (.ior, 1) := by decide +kernel
theorem dX12_sight_66 : decode cX12_sight 66 = .ok (.istore_n 3, 1) := by decide +kernel
theorem dX12_sight_67 : decode cX12_sight 67 = .ok (.iinc 4 1, 3) := by decide +kernel
theorem dX12_sight_70 : decode cX12_sight 70 = .ok (.goto (-46), 3) := by decide +kernel
theorem dX12_sight_73 : decode cX12_sight 73 = .ok (.iload_n 3, 1) := by decide +kernel
theorem dX12_sight_74 : decode cX12_sight 74 = .ok (.ireturn, 1) := by decide +kernel
theorem dX12_endOf_0 : decode cX12_endOf 0 = .ok (.iload_n 1, 1) := by decide +kernel
theorem dX12_endOf_1 : decode cX12_endOf 1 = .ok (.aload_n 0, 1) := by decide +kernel
theorem dX12_endOf_2 : decode cX12_endOf 2 = .ok (.getfield 383, 3) := by decide +kernel
theorem dX12_endOf_5 : decode cX12_endOf 5 = .ok (.if_icmp .ge 13, 3) := by decide +kernel
theorem dX12_endOf_8 : decode cX12_endOf 8 = .ok (.aload_n 0, 1) := by decide +kernel
theorem dX12_endOf_9 : decode cX12_endOf 9 = .ok (.iload_n 1, 1) := by decide +kernel
theorem dX12_endOf_10 : decode cX12_endOf 10 = .ok (.iconst 1, 1) := by decide +kernel
theorem dX12_endOf_11 : decode cX12_endOf 11 = .ok (.iadd, 1) := by decide +kernel
theorem dX12_endOf_12 : decode cX12_endOf 12 = .ok (.invokevirtual 429, 3) := by decide +kernel
theorem dX12_endOf_15 : decode cX12_endOf 15 = .ok (.goto 22, 3) := by decide +kernel
theorem dX12_endOf_18 : decode cX12_endOf 18 = .ok (.aload_n 0, 1) := by decide +kernel
theorem dX12_endOf_19 : decode cX12_endOf 19 = .ok (.invokevirtual 512, 3) := by decide +kernel
theorem dX12_endOf_22 : decode cX12_endOf 22 = .ok (.ifCond .ge 11, 3) := by decide +kernel
theorem dX12_endOf_25 : decode cX12_endOf 25 = .ok (.aload_n 0, 1) := by decide +kernel
theorem dX12_endOf_26 : decode cX12_endOf 26 = .ok (.iload_n 1, 1) := by decide +kernel
theorem dX12_endOf_27 : decode cX12_endOf 27 = .ok (.invokevirtual 429, 3) := by decide +kernel
theorem dX12_endOf_30 : decode cX12_endOf 30 = .ok (.goto 7, 3) := by decide +kernel
theorem dX12_endOf_33 : decode cX12_endOf 33 = .ok (.aload_n 0, 1) := by decide +kernel
theorem dX12_endOf_34 : decode cX12_endOf 34 = .ok (.invokevirtual 512, 3) := by decide +kernel
theorem dX12_endOf_37 : decode cX12_endOf 37 = .ok (.ireturn, 1) := by decide +kernel
theorem dX12_trapezes_0 : decode cX12_trapezes 0 = .ok (.iconst 0, 1) := by decide +kernel
theorem dX12_trapezes_1 : decode cX12_trapezes 1 = .ok (.istore_n 1, 1) := by decide +kernel
theorem dX12_trapezes_2 : decode cX12_trapezes 2 = .ok (.iconst 0, 1) := by decide +kernel
theorem dX12_trapezes_3 : decode cX12_trapezes 3 = .ok (.istore_n 2, 1) := by decide +kernel
theorem dX12_trapezes_4 : decode cX12_trapezes 4 = .ok (.iload_n 2, 1) := by decide +kernel
theorem dX12_trapezes_5 : decode cX12_trapezes 5 = .ok (.aload_n 0, 1) := by decide +kernel
theorem dX12_trapezes_6 : decode cX12_trapezes 6 = .ok (.getfield 371, 3) := by decide +kernel
theorem dX12_trapezes_9 : decode cX12_trapezes 9 = .ok (.if_icmp .ge 130, 3) := by decide +kernel
theorem dX12_trapezes_12 : decode cX12_trapezes 12 = .ok (.iconst 0, 1) := by decide +kernel
theorem dX12_trapezes_13 : decode cX12_trapezes 13 = .ok (.istore_n 3, 1) := by decide +kernel
theorem dX12_trapezes_14 : decode cX12_trapezes 14 = .ok (.iconst 0, 1) := by decide +kernel
theorem dX12_trapezes_15 : decode cX12_trapezes 15 = .ok (.istore 4, 2) := by decide +kernel
theorem dX12_trapezes_17 : decode cX12_trapezes 17 = .ok (.iload 4, 2) := by decide +kernel
theorem dX12_trapezes_19 : decode cX12_trapezes 19 = .ok (.aload_n 0, 1) := by decide +kernel
theorem dX12_trapezes_20 : decode cX12_trapezes 20 = .ok (.getfield 383, 3) := by decide +kernel
theorem dX12_trapezes_23 : decode cX12_trapezes 23 = .ok (.if_icmp .gt 110, 3) := by decide +kernel
theorem dX12_trapezes_26 : decode cX12_trapezes 26 = .ok (.aload_n 0, 1) := by decide +kernel
theorem dX12_trapezes_27 : decode cX12_trapezes 27 = .ok (.iload_n 2, 1) := by decide +kernel
theorem dX12_trapezes_28 : decode cX12_trapezes 28 = .ok (.iload 4, 2) := by decide +kernel
theorem dX12_trapezes_30 : decode cX12_trapezes 30 = .ok (.iconst 1, 1) := by decide +kernel
theorem dX12_trapezes_31 : decode cX12_trapezes 31 = .ok (.invokevirtual 564, 3) := by decide +kernel
theorem dX12_trapezes_34 : decode cX12_trapezes 34 = .ok (.istore 5, 2) := by decide +kernel
theorem dX12_trapezes_36 : decode cX12_trapezes 36 = .ok (.iload 4, 2) := by decide +kernel
theorem dX12_trapezes_38 : decode cX12_trapezes 38 = .ok (.ifCond .le 25, 3) := by decide +kernel
theorem dX12_trapezes_41 : decode cX12_trapezes 41 = .ok (.iload 5, 2) := by decide +kernel
theorem dX12_trapezes_43 : decode cX12_trapezes 43 = .ok (.aload_n 0, 1) := by decide +kernel
theorem dX12_trapezes_44 : decode cX12_trapezes 44 = .ok (.iload_n 2, 1) := by decide +kernel
theorem dX12_trapezes_45 : decode cX12_trapezes 45 = .ok (.iload 4, 2) := by decide +kernel
theorem dX12_trapezes_47 : decode cX12_trapezes 47 = .ok (.iconst 1, 1) := by decide +kernel
theorem dX12_trapezes_48 : decode cX12_trapezes 48 = .ok (.isub, 1) := by decide +kernel
theorem dX12_trapezes_49 : decode cX12_trapezes 49 = .ok (.iconst 1, 1) := by decide +kernel
theorem dX12_trapezes_50 : decode cX12_trapezes 50 = .ok (.invokevirtual 564, 3) := by decide +kernel
theorem dX12_trapezes_53 : decode cX12_trapezes 53 = .ok (.if_icmp .eq 10, 3) := by decide +kernel
theorem dX12_trapezes_56 : decode cX12_trapezes 56 = .ok (.aload_n 0, 1) := by decide +kernel
theorem dX12_trapezes_57 : decode cX12_trapezes 57 = .ok (.iload 4, 2) := by decide +kernel
theorem dX12_trapezes_59 : decode cX12_trapezes 59 = .ok (.invokevirtual 429, 3) := by decide +kernel
theorem dX12_trapezes_62 : decode cX12_trapezes 62 = .ok (.istore_n 3, 1) := by decide +kernel
theorem dX12_trapezes_63 : decode cX12_trapezes 63 = .ok (.iload 4, 2) := by decide +kernel
theorem dX12_trapezes_65 : decode cX12_trapezes 65 = .ok (.aload_n 0, 1) := by decide +kernel
theorem dX12_trapezes_66 : decode cX12_trapezes 66 = .ok (.getfield 383, 3) := by decide +kernel
theorem dX12_trapezes_69 : decode cX12_trapezes 69 = .ok (.if_icmp .eq 18, 3) := by decide +kernel
theorem dX12_trapezes_72 : decode cX12_trapezes 72 = .ok (.iload 5, 2) := by decide +kernel
theorem dX12_trapezes_74 : decode cX12_trapezes 74 = .ok (.aload_n 0, 1) := by decide +kernel
theorem dX12_trapezes_75 : decode cX12_trapezes 75 = .ok (.iload_n 2, 1) := by decide +kernel
theorem dX12_trapezes_76 : decode cX12_trapezes 76 = .ok (.iload 4, 2) := by decide +kernel
theorem dX12_trapezes_78 : decode cX12_trapezes 78 = .ok (.iconst 1, 1) := by decide +kernel
theorem dX12_trapezes_79 : decode cX12_trapezes 79 = .ok (.iadd, 1) := by decide +kernel
theorem dX12_trapezes_80 : decode cX12_trapezes 80 = .ok (.iconst 1, 1) := by decide +kernel
theorem dX12_trapezes_81 : decode cX12_trapezes 81 = .ok (.invokevirtual 564, 3) := by decide +kernel
theorem dX12_trapezes_84 : decode cX12_trapezes 84 = .ok (.if_icmp .eq 7, 3) := by decide +kernel
theorem dX12_trapezes_87 : decode cX12_trapezes 87 = .ok (.iconst 1, 1) := by decide +kernel
theorem dX12_trapezes_88 : decode cX12_trapezes 88 = .ok (.goto 4, 3) := by decide +kernel
theorem dX12_trapezes_91 : decode cX12_trapezes 91 = .ok (.iconst 0, 1) := by decide +kernel
theorem dX12_trapezes_92 : decode cX12_trapezes 92 = .ok (.istore 6, 2) := by decide +kernel
theorem dX12_trapezes_94 : decode cX12_trapezes 94 = .ok (.iload_n 1, 1) := by decide +kernel
theorem dX12_trapezes_95 : decode cX12_trapezes 95 = .ok (.iload 5, 2) := by decide +kernel
theorem dX12_trapezes_97 : decode cX12_trapezes 97 = .ok (.bipush (-2), 2) := by decide +kernel
theorem dX12_trapezes_99 : decode cX12_trapezes 99 = .ok (.if_icmp .eq 22, 3) := by decide +kernel
theorem dX12_trapezes_102 : decode cX12_trapezes 102 = .ok (.iload 6, 2) := by decide +kernel
theorem dX12_trapezes_104 : decode cX12_trapezes 104 = .ok (.ifCond .eq 17, 3) := by decide +kernel
theorem dX12_trapezes_107 : decode cX12_trapezes 107 = .ok (.aload_n 0, 1) := by decide +kernel
theorem dX12_trapezes_108 : decode cX12_trapezes 108 = .ok (.iload 4, 2) := by decide +kernel
theorem dX12_trapezes_110 : decode cX12_trapezes 110 = .ok (.invokevirtual 567, 3) := by decide +kernel
theorem dX12_trapezes_113 : decode cX12_trapezes 113 = .ok (.iload_n 3, 1) := by decide +kernel
theorem dX12_trapezes_114 : decode cX12_trapezes 114 = .ok (.if_icmp .le 7, 3) := by decide +kernel
theorem dX12_trapezes_117 : decode cX12_trapezes 117 = .ok (.iconst 1, 1) := by decide +kernel
theorem dX12_trapezes_118 : decode cX12_trapezes 118 = .ok (.goto 4, 3) := by decide +kernel
theorem dX12_trapezes_121 : decode cX12_trapezes 121 = .ok (.iconst 0, 1) := by decide +kernel
theorem dX12_trapezes_122 : decode cX12_trapezes 122 = .ok (.invokestatic 304, 3) := by decide +kernel
theorem dX12_trapezes_125 : decode cX12_trapezes 125 = .ok (.iadd, 1) := by decide +kernel
theorem dX12_trapezes_126 : decode cX12_trapezes 126 = .ok (.istore_n 1, 1) := by decide +kernel
theorem dX12_trapezes_127 : decode cX12_trapezes 127 = .ok (.iinc 4 1, 3) := by decide +kernel
theorem dX12_trapezes_130 : decode cX12_trapezes 130 = .ok (.goto (-113), 3) := by decide +kernel
theorem dX12_trapezes_133 : decode cX12_trapezes 133 = .ok (.iinc 2 1, 3) := by decide +kernel
theorem dX12_trapezes_136 : decode cX12_trapezes 136 = .ok (.goto (-132), 3) := by decide +kernel
theorem dX12_trapezes_139 : decode cX12_trapezes 139 = .ok (.iload_n 1, 1) := by decide +kernel
theorem dX12_trapezes_140 : decode cX12_trapezes 140 = .ok (.ireturn, 1) := by decide +kernel
theorem dX12_layAreas_0 : decode cX12_layAreas 0 = .ok (.iconst 0, 1) := by decide +kernel
theorem dX12_layAreas_1 : decode cX12_layAreas 1 = .ok (.istore_n 1, 1) := by decide +kernel
theorem dX12_layAreas_2 : decode cX12_layAreas 2 = .ok (.iload_n 1, 1) := by decide +kernel
theorem dX12_layAreas_3 : decode cX12_layAreas 3 = .ok (.bipush 8, 2) := by decide +kernel
theorem dX12_layAreas_5 : decode cX12_layAreas 5 = .ok (.if_icmp .gt 16, 3) := by decide +kernel
theorem dX12_layAreas_8 : decode cX12_layAreas 8 = .ok (.aload_n 0, 1) := by decide +kernel
theorem dX12_layAreas_9 : decode cX12_layAreas 9 = .ok (.getfield 120, 3) := by decide +kernel
theorem dX12_layAreas_12 : decode cX12_layAreas 12 = .ok (.iload_n 1, 1) := by decide +kernel
theorem dX12_layAreas_13 : decode cX12_layAreas 13 = .ok (.iconst 0, 1) := by decide +kernel
theorem dX12_layAreas_14 : decode cX12_layAreas 14 = .ok (.iastore, 1) := by decide +kernel
theorem dX12_layAreas_15 : decode cX12_layAreas 15 = .ok (.iinc 1 1, 3) := by decide +kernel
theorem dX12_layAreas_18 : decode cX12_layAreas 18 = .ok (.goto (-16), 3) := by decide +kernel
theorem dX12_layAreas_21 : decode cX12_layAreas 21 = .ok (.iconst 0, 1) := by decide +kernel
theorem dX12_layAreas_22 : decode cX12_layAreas 22 = .ok (.istore_n 1, 1) := by decide +kernel
theorem dX12_layAreas_23 : decode cX12_layAreas 23 = .ok (.iload_n 1, 1) := by decide +kernel
theorem dX12_layAreas_24 : decode cX12_layAreas 24 = .ok (.bipush 60, 2) := by decide +kernel
theorem dX12_layAreas_26 : decode cX12_layAreas 26 = .ok (.if_icmp .gt 71, 3) := by decide +kernel
theorem dX12_layAreas_29 : decode cX12_layAreas 29 = .ok (.aload_n 0, 1) := by decide +kernel
theorem dX12_layAreas_30 : decode cX12_layAreas 30 = .ok (.iload_n 1, 1) := by decide +kernel
theorem dX12_layAreas_31 : decode cX12_layAreas 31 = .ok (.invokevirtual 515, 3) := by decide +kernel
theorem dX12_layAreas_34 : decode cX12_layAreas 34 = .ok (.ifCond .eq 63, 3) := by decide +kernel
theorem dX12_layAreas_37 : decode cX12_layAreas 37 = .ok (.aload_n 0, 1) := by decide +kernel
theorem dX12_layAreas_38 : decode cX12_layAreas 38 = .ok (.aload_n 0, 1) := by decide +kernel
theorem dX12_layAreas_39 : decode cX12_layAreas 39 = .ok (.iload_n 1, 1) := by decide +kernel
theorem dX12_layAreas_40 : decode cX12_layAreas 40 = .ok (.invokevirtual 518, 3) := by decide +kernel
theorem dX12_layAreas_43 : decode cX12_layAreas 43 = .ok (.invokevirtual 420, 3) := by decide +kernel
theorem dX12_layAreas_46 : decode cX12_layAreas 46 = .ok (.istore_n 2, 1) := by decide +kernel
theorem dX12_layAreas_47 : decode cX12_layAreas 47 = .ok (.iconst 0, 1) := by decide +kernel
theorem dX12_layAreas_48 : decode cX12_layAreas 48 = .ok (.istore_n 3, 1) := by decide +kernel
theorem dX12_layAreas_49 : decode cX12_layAreas 49 = .ok (.iload_n 3, 1) := by decide +kernel
theorem dX12_layAreas_50 : decode cX12_layAreas 50 = .ok (.bipush 60, 2) := by decide +kernel
theorem dX12_layAreas_52 : decode cX12_layAreas 52 = .ok (.if_icmp .gt 39, 3) := by decide +kernel
theorem dX12_layAreas_55 : decode cX12_layAreas 55 = .ok (.aload_n 0, 1) := by decide +kernel
theorem dX12_layAreas_56 : decode cX12_layAreas 56 = .ok (.iload_n 2, 1) := by decide +kernel
theorem dX12_layAreas_57 : decode cX12_layAreas 57 = .ok (.iload_n 1, 1) := by decide +kernel
theorem dX12_layAreas_58 : decode cX12_layAreas 58 = .ok (.iload_n 3, 1) := by decide +kernel
theorem dX12_layAreas_59 : decode cX12_layAreas 59 = .ok (.invokevirtual 521, 3) := by decide +kernel
theorem dX12_layAreas_62 : decode cX12_layAreas 62 = .ok (.istore 4, 2) := by decide +kernel
theorem dX12_layAreas_64 : decode cX12_layAreas 64 = .ok (.aload_n 0, 1) := by decide +kernel
theorem dX12_layAreas_65 : decode cX12_layAreas 65 = .ok (.getfield 120, 3) := by decide +kernel
theorem dX12_layAreas_68 : decode cX12_layAreas 68 = .ok (.iload 4, 2) := by decide +kernel
theorem dX12_layAreas_70 : decode cX12_layAreas 70 = .ok (.ifCond .ge 8, 3) := by decide +kernel
theorem dX12_layAreas_73 : decode cX12_layAreas 73 = .ok (.bipush 8, 2) := by decide +kernel
theorem dX12_layAreas_75 : decode cX12_layAreas 75 = .ok (.goto 5, 3) := by decide +kernel
theorem dX12_layAreas_78 : decode cX12_layAreas 78 = .ok (.iload 4, 2) := by decide +kernel
theorem dX12_layAreas_80 : decode cX12_layAreas 80 = .ok (.dup2, 1) := by decide +kernel
theorem dX12_layAreas_81 : decode cX12_layAreas 81 = .ok (.iaload, 1) := by decide +kernel
theorem dX12_layAreas_82 : decode cX12_layAreas 82 = .ok (.iconst 1, 1) := by decide +kernel
theorem dX12_layAreas_83 : decode cX12_layAreas 83 = .ok (.iadd, 1) := by decide +kernel
theorem dX12_layAreas_84 : decode cX12_layAreas 84 = .ok (.iastore, 1) := by decide +kernel
theorem dX12_layAreas_85 : decode cX12_layAreas 85 = .ok (.iinc 3 1, 3) := by decide +kernel
theorem dX12_layAreas_88 : decode cX12_layAreas 88 = .ok (.goto (-39), 3) := by decide +kernel
theorem dX12_layAreas_91 : decode cX12_layAreas 91 = .ok (.iinc 1 1, 3) := by decide +kernel
theorem dX12_layAreas_94 : decode cX12_layAreas 94 = .ok (.goto (-71), 3) := by decide +kernel
theorem dX12_layAreas_97 : decode cX12_layAreas 97 = .ok (.return_, 1) := by decide +kernel
theorem dX12_area_0 : decode cX12_area 0 = .ok (.iload_n 1, 1) := by decide +kernel
theorem dX12_area_1 : decode cX12_area 1 = .ok (.iconst (-1), 1) := by decide +kernel
theorem dX12_area_2 : decode cX12_area 2 = .ok (.if_icmp .eq 14, 3) := by decide +kernel
theorem dX12_area_5 : decode cX12_area 5 = .ok (.aload_n 0, 1) := by decide +kernel
theorem dX12_area_6 : decode cX12_area 6 = .ok (.iload_n 1, 1) := by decide +kernel
theorem dX12_area_7 : decode cX12_area 7 = .ok (.invokevirtual 408, 3) := by decide +kernel
theorem dX12_area_10 : decode cX12_area 10 = .ok (.ifCond .ne 6, 3) := by decide +kernel
theorem dX12_area_13 : decode cX12_area 13 = .ok (.bipush (-2), 2) := by decide +kernel
theorem dX12_area_15 : decode cX12_area 15 = .ok (.ireturn, 1) := by decide +kernel
theorem dX12_area_16 : decode cX12_area 16 = .ok (.aload_n 0, 1) := by decide +kernel
theorem dX12_area_17 : decode cX12_area 17 = .ok (.invokevirtual 570, 3) := by decide +kernel
theorem dX12_area_20 : decode cX12_area 20 = .ok (.aload_n 0, 1) := by decide +kernel
theorem dX12_area_21 : decode cX12_area 21 = .ok (.getfield 120, 3) := by decide +kernel
theorem dX12_area_24 : decode cX12_area 24 = .ok (.iload_n 1, 1) := by decide +kernel
theorem dX12_area_25 : decode cX12_area 25 = .ok (.ifCond .ge 8, 3) := by decide +kernel
theorem dX12_area_28 : decode cX12_area 28 = .ok (.bipush 8, 2) := by decide +kernel
theorem dX12_area_30 : decode cX12_area 30 = .ok (.goto 4, 3) := by decide +kernel
theorem dX12_area_33 : decode cX12_area 33 = .ok (.iload_n 1, 1) := by decide +kernel
theorem dX12_area_34 : decode cX12_area 34 = .ok (.iaload, 1) := by decide +kernel
theorem dX12_area_35 : decode cX12_area 35 = .ok (.ireturn, 1) := by decide +kernel
theorem dX12_largest_0 : decode cX12_largest 0 = .ok (.aload_n 0, 1) := by decide +kernel
theorem dX12_largest_1 : decode cX12_largest 1 = .ok (.invokevirtual 570, 3) := by decide +kernel
theorem dX12_largest_4 : decode cX12_largest 4 = .ok (.iconst (-1), 1) := by decide +kernel
theorem dX12_largest_5 : decode cX12_largest 5 = .ok (.istore_n 1, 1) := by decide +kernel
theorem dX12_largest_6 : decode cX12_largest 6 = .ok (.iconst 0, 1) := by decide +kernel
theorem dX12_largest_7 : decode cX12_largest 7 = .ok (.istore_n 2, 1) := by decide +kernel
theorem dX12_largest_8 : decode cX12_largest 8 = .ok (.iload_n 2, 1) := by decide +kernel
theorem dX12_largest_9 : decode cX12_largest 9 = .ok (.aload_n 0, 1) := by decide +kernel
theorem dX12_largest_10 : decode cX12_largest 10 = .ok (.getfield 371, 3) := by decide +kernel
theorem dX12_largest_13 : decode cX12_largest 13 = .ok (.if_icmp .ge 34, 3) := by decide +kernel
theorem dX12_largest_16 : decode cX12_largest 16 = .ok (.iload_n 1, 1) := by decide +kernel
theorem dX12_largest_17 : decode cX12_largest 17 = .ok (.ifCond .lt 18, 3) := by decide +kernel
theorem dX12_largest_20 : decode cX12_largest 20 = .ok (.aload_n 0, 1) := by decide +kernel
theorem dX12_largest_21 : decode cX12_largest 21 = .ok (.getfield 120, 3) := by decide +kernel
theorem dX12_largest_24 : decode cX12_largest 24 = .ok (.iload_n 2, 1) := by decide +kernel
theorem dX12_largest_25 : decode cX12_largest 25 = .ok (.iaload, 1) := by decide +kernel
theorem dX12_largest_26 : decode cX12_largest 26 = .ok (.aload_n 0, 1) := by decide +kernel
theorem dX12_largest_27 : decode cX12_largest 27 = .ok (.getfield 120, 3) := by decide +kernel
theorem dX12_largest_30 : decode cX12_largest 30 = .ok (.iload_n 1, 1) := by decide +kernel
theorem dX12_largest_31 : decode cX12_largest 31 = .ok (.iaload, 1) := by decide +kernel
theorem dX12_largest_32 : decode cX12_largest 32 = .ok (.if_icmp .le 7, 3) := by decide +kernel
theorem dX12_largest_35 : decode cX12_largest 35 = .ok (.iload_n 2, 1) := by decide +kernel
theorem dX12_largest_36 : decode cX12_largest 36 = .ok (.goto 4, 3) := by decide +kernel
theorem dX12_largest_39 : decode cX12_largest 39 = .ok (.iload_n 1, 1) := by decide +kernel
theorem dX12_largest_40 : decode cX12_largest 40 = .ok (.istore_n 1, 1) := by decide +kernel
theorem dX12_largest_41 : decode cX12_largest 41 = .ok (.iinc 2 1, 3) := by decide +kernel
theorem dX12_largest_44 : decode cX12_largest 44 = .ok (.goto (-36), 3) := by decide +kernel
theorem dX12_largest_47 : decode cX12_largest 47 = .ok (.iload_n 1, 1) := by decide +kernel
theorem dX12_largest_48 : decode cX12_largest 48 = .ok (.ireturn, 1) := by decide +kernel
theorem dX12_hidden_0 : decode cX12_hidden 0 = .ok (.iload_n 1, 1) := by decide +kernel
theorem dX12_hidden_1 : decode cX12_hidden 1 = .ok (.iconst 0, 1) := by decide +kernel
theorem dX12_hidden_2 : decode cX12_hidden 2 = .ok (.iconst 2, 1) := by decide +kernel
theorem dX12_hidden_3 : decode cX12_hidden 3 = .ok (.invokestatic 398, 3) := by decide +kernel
theorem dX12_hidden_6 : decode cX12_hidden 6 = .ok (.ifCond .ne 5, 3) := by decide +kernel
theorem dX12_hidden_9 : decode cX12_hidden 9 = .ok (.iconst (-1), 1) := by decide +kernel
theorem dX12_hidden_10 : decode cX12_hidden 10 = .ok (.ireturn, 1) := by decide +kernel
theorem dX12_hidden_11 : decode cX12_hidden 11 = .ok (.iconst (-1), 1) := by decide +kernel
theorem dX12_hidden_12 : decode cX12_hidden 12 = .ok (.istore_n 2, 1) := by decide +kernel
theorem dX12_hidden_13 : decode cX12_hidden 13 = .ok (.iconst (-1), 1) := by decide +kernel
theorem dX12_hidden_14 : decode cX12_hidden 14 = .ok (.istore_n 3, 1) := by decide +kernel
theorem dX12_hidden_15 : decode cX12_hidden 15 = .ok (.iconst (-1), 1) := by decide +kernel
theorem dX12_hidden_16 : decode cX12_hidden 16 = .ok (.istore 4, 2) := by decide +kernel
theorem dX12_hidden_18 : decode cX12_hidden 18 = .ok (.iconst 0, 1) := by decide +kernel
theorem dX12_hidden_19 : decode cX12_hidden 19 = .ok (.istore 5, 2) := by decide +kernel
theorem dX12_hidden_21 : decode cX12_hidden 21 = .ok (.iload 5, 2) := by decide +kernel
theorem dX12_hidden_23 : decode cX12_hidden 23 = .ok (.bipush 60, 2) := by decide +kernel
theorem dX12_hidden_25 : decode cX12_hidden 25 = .ok (.if_icmp .gt 64, 3) := by decide +kernel
theorem dX12_hidden_28 : decode cX12_hidden 28 = .ok (.aload_n 0, 1) := by decide +kernel
theorem dX12_hidden_29 : decode cX12_hidden 29 = .ok (.iload 5, 2) := by decide +kernel
theorem dX12_hidden_31 : decode cX12_hidden 31 = .ok (.invokevirtual 515, 3) := by decide +kernel
theorem dX12_hidden_34 : decode cX12_hidden 34 = .ok (.ifCond .eq 55, 3) := by decide +kernel
theorem dX12_hidden_37 : decode cX12_hidden 37 = .ok (.iconst 0, 1) := by decide +kernel
theorem dX12_hidden_38 : decode cX12_hidden 38 = .ok (.istore 6, 2) := by decide +kernel
theorem dX12_hidden_40 : decode cX12_hidden 40 = .ok (.iload 6, 2) := by decide +kernel
theorem dX12_hidden_42 : decode cX12_hidden 42 = .ok (.bipush 60, 2) := by decide +kernel
theorem dX12_hidden_44 : decode cX12_hidden 44 = .ok (.if_icmp .gt 39, 3) := by decide +kernel
theorem dX12_hidden_47 : decode cX12_hidden 47 = .ok (.aload_n 0, 1) := by decide +kernel
theorem dX12_hidden_48 : decode cX12_hidden 48 = .ok (.iload 5, 2) := by decide +kernel
theorem dX12_hidden_50 : decode cX12_hidden 50 = .ok (.iload 6, 2) := by decide +kernel
theorem dX12_hidden_52 : decode cX12_hidden 52 = .ok (.invokevirtual 539, 3) := by decide +kernel
theorem dX12_hidden_55 : decode cX12_hidden 55 = .ok (.istore 7, 2) := by decide +kernel
theorem dX12_hidden_57 : decode cX12_hidden 57 = .ok (.iload 7, 2) := by decide +kernel
theorem dX12_hidden_59 : decode cX12_hidden 59 = .ok (.iload 4, 2) := by decide +kernel
theorem dX12_hidden_61 : decode cX12_hidden 61 = .ok (.if_icmp .gt 6, 3) := by decide +kernel
theorem dX12_hidden_64 : decode cX12_hidden 64 = .ok (.goto 13, 3) := by decide +kernel
theorem dX12_hidden_67 : decode cX12_hidden 67 = .ok (.iload 5, 2) := by decide +kernel
theorem dX12_hidden_69 : decode cX12_hidden 69 = .ok (.istore_n 2, 1) := by decide +kernel
theorem dX12_hidden_70 : decode cX12_hidden 70 = .ok (.iload 6, 2) := by decide +kernel
theorem dX12_hidden_72 : decode cX12_hidden 72 = .ok (.istore_n 3, 1) := by decide +kernel
theorem dX12_hidden_73 : decode cX12_hidden 73 = .ok (.iload 7, 2) := by decide +kernel
theorem dX12_hidden_75 : decode cX12_hidden 75 = .ok (.istore 4, 2) := by decide +kernel
theorem dX12_hidden_77 : decode cX12_hidden 77 = .ok (.iinc 6 1, 3) := by decide +kernel
theorem dX12_hidden_80 : decode cX12_hidden 80 = .ok (.goto (-40), 3) := by decide +kernel
theorem dX12_hidden_83 : decode cX12_hidden 83 = .ok (.iinc 5 1, 3) := by decide +kernel
theorem dX12_hidden_86 : decode cX12_hidden 86 = .ok (.goto (-65), 3) := by decide +kernel
theorem dX12_hidden_89 : decode cX12_hidden 89 = .ok (.iload_n 1, 1) := by decide +kernel
theorem dX12_hidden_90 : decode cX12_hidden 90 = .ok (.ifCond .ne 7, 3) := by decide +kernel
theorem dX12_hidden_93 : decode cX12_hidden 93 = .ok (.iload_n 2, 1) := by decide +kernel
theorem dX12_hidden_94 : decode cX12_hidden 94 = .ok (.goto 14, 3) := by decide +kernel
theorem dX12_hidden_97 : decode cX12_hidden 97 = .ok (.iload_n 1, 1) := by decide +kernel
theorem dX12_hidden_98 : decode cX12_hidden 98 = .ok (.iconst 1, 1) := by decide +kernel
theorem dX12_hidden_99 : decode cX12_hidden 99 = .ok (.if_icmp .ne 7, 3) := by decide +kernel
theorem dX12_hidden_102 : decode cX12_hidden 102 = .ok (.iload_n 3, 1) := by decide +kernel
theorem dX12_hidden_103 : decode cX12_hidden 103 = .ok (.goto 5, 3) := by decide +kernel
theorem dX12_hidden_106 : decode cX12_hidden 106 = .ok (.iload 4, 2) := by decide +kernel
theorem dX12_hidden_108 : decode cX12_hidden 108 = .ok (.ireturn, 1) := by decide +kernel
theorem dX12_next_0 : decode cX12_next 0 = .ok (.aload_n 0, 1) := by decide +kernel
theorem dX12_next_1 : decode cX12_next 1 = .ok (.invokevirtual 512, 3) := by decide +kernel
theorem dX12_next_4 : decode cX12_next 4 = .ok (.ireturn, 1) := by decide +kernel
theorem dX12_events_0 : decode cX12_events 0 = .ok (.aload_n 0, 1) := by decide +kernel
theorem dX12_events_1 : decode cX12_events 1 = .ok (.getfield 402, 3) := by decide +kernel
theorem dX12_events_4 : decode cX12_events 4 = .ok (.ireturn, 1) := by decide +kernel
theorem dX12_lies_0 : decode cX12_lies 0 = .ok (.iload_n 1, 1) := by decide +kernel
theorem dX12_lies_1 : decode cX12_lies 1 = .ok (.iconst 0, 1) := by decide +kernel
theorem dX12_lies_2 : decode cX12_lies 2 = .ok (.aload_n 0, 1) := by decide +kernel
theorem dX12_lies_3 : decode cX12_lies 3 = .ok (.getfield 395, 3) := by decide +kernel
theorem dX12_lies_6 : decode cX12_lies 6 = .ok (.iconst 1, 1) := by decide +kernel
theorem dX12_lies_7 : decode cX12_lies 7 = .ok (.isub, 1) := by decide +kernel
theorem dX12_lies_8 : decode cX12_lies 8 = .ok (.invokestatic 398, 3) := by decide +kernel
theorem dX12_lies_11 : decode cX12_lies 11 = .ok (.ifCond .eq 12, 3) := by decide +kernel
theorem dX12_lies_14 : decode cX12_lies 14 = .ok (.aload_n 0, 1) := by decide +kernel
theorem dX12_lies_15 : decode cX12_lies 15 = .ok (.getfield 105, 3) := by decide +kernel
theorem dX12_lies_18 : decode cX12_lies 18 = .ok (.iload_n 1, 1) := by decide +kernel
theorem dX12_lies_19 : decode cX12_lies 19 = .ok (.iaload, 1) := by decide +kernel
theorem dX12_lies_20 : decode cX12_lies 20 = .ok (.goto 5, 3) := by decide +kernel
theorem dX12_lies_23 : decode cX12_lies 23 = .ok (.bipush (-2), 2) := by decide +kernel
theorem dX12_lies_25 : decode cX12_lies 25 = .ok (.ireturn, 1) := by decide +kernel
theorem dX12_seen_0 : decode cX12_seen 0 = .ok (.iload_n 1, 1) := by decide +kernel
theorem dX12_seen_1 : decode cX12_seen 1 = .ok (.iconst (-1), 1) := by decide +kernel
theorem dX12_seen_2 : decode cX12_seen 2 = .ok (.if_icmp .eq 11, 3) := by decide +kernel
theorem dX12_seen_5 : decode cX12_seen 5 = .ok (.aload_n 0, 1) := by decide +kernel
theorem dX12_seen_6 : decode cX12_seen 6 = .ok (.iload_n 1, 1) := by decide +kernel
theorem dX12_seen_7 : decode cX12_seen 7 = .ok (.invokevirtual 408, 3) := by decide +kernel
theorem dX12_seen_10 : decode cX12_seen 10 = .ok (.ifCond .eq 12, 3) := by decide +kernel
theorem dX12_seen_13 : decode cX12_seen 13 = .ok (.aload_n 0, 1) := by decide +kernel
theorem dX12_seen_14 : decode cX12_seen 14 = .ok (.getfield 392, 3) := by decide +kernel
theorem dX12_seen_17 : decode cX12_seen 17 = .ok (.bipush 30, 2) := by decide +kernel
theorem dX12_seen_19 : decode cX12_seen 19 = .ok (.if_icmp .ne 5, 3) := by decide +kernel
theorem dX12_seen_22 : decode cX12_seen 22 = .ok (.iconst (-1), 1) := by decide +kernel
theorem dX12_seen_23 : decode cX12_seen 23 = .ok (.ireturn, 1) := by decide +kernel
theorem dX12_seen_24 : decode cX12_seen 24 = .ok (.aload_n 0, 1) := by decide +kernel
theorem dX12_seen_25 : decode cX12_seen 25 = .ok (.getfield 123, 3) := by decide +kernel
theorem dX12_seen_28 : decode cX12_seen 28 = .ok (.aload_n 0, 1) := by decide +kernel
theorem dX12_seen_29 : decode cX12_seen 29 = .ok (.getfield 392, 3) := by decide +kernel
theorem dX12_seen_32 : decode cX12_seen 32 = .ok (.iload_n 1, 1) := by decide +kernel
theorem dX12_seen_33 : decode cX12_seen 33 = .ok (.iastore, 1) := by decide +kernel
theorem dX12_seen_34 : decode cX12_seen 34 = .ok (.aload_n 0, 1) := by decide +kernel
theorem dX12_seen_35 : decode cX12_seen 35 = .ok (.getfield 132, 3) := by decide +kernel
theorem dX12_seen_38 : decode cX12_seen 38 = .ok (.aload_n 0, 1) := by decide +kernel
theorem dX12_seen_39 : decode cX12_seen 39 = .ok (.getfield 392, 3) := by decide +kernel
theorem dX12_seen_42 : decode cX12_seen 42 = .ok (.iload_n 2, 1) := by decide +kernel
theorem dX12_seen_43 : decode cX12_seen 43 = .ok (.bastore, 1) := by decide +kernel
theorem dX12_seen_44 : decode cX12_seen 44 = .ok (.aload_n 0, 1) := by decide +kernel
theorem dX12_seen_45 : decode cX12_seen 45 = .ok (.getfield 126, 3) := by decide +kernel
theorem dX12_seen_48 : decode cX12_seen 48 = .ok (.aload_n 0, 1) := by decide +kernel
theorem dX12_seen_49 : decode cX12_seen 49 = .ok (.getfield 392, 3) := by decide +kernel
theorem dX12_seen_52 : decode cX12_seen 52 = .ok (.aload_n 0, 1) := by decide +kernel
theorem dX12_seen_53 : decode cX12_seen 53 = .ok (.getfield 573, 3) := by decide +kernel
theorem dX12_seen_56 : decode cX12_seen 56 = .ok (.iastore, 1) := by decide +kernel
theorem dX12_seen_57 : decode cX12_seen 57 = .ok (.aload_n 0, 1) := by decide +kernel
theorem dX12_seen_58 : decode cX12_seen 58 = .ok (.getfield 129, 3) := by decide +kernel
theorem dX12_seen_61 : decode cX12_seen 61 = .ok (.aload_n 0, 1) := by decide +kernel
theorem dX12_seen_62 : decode cX12_seen 62 = .ok (.getfield 392, 3) := by decide +kernel
theorem dX12_seen_65 : decode cX12_seen 65 = .ok (.iconst (-1), 1) := by decide +kernel
theorem dX12_seen_66 : decode cX12_seen 66 = .ok (.iastore, 1) := by decide +kernel
theorem dX12_seen_67 : decode cX12_seen 67 = .ok (.aload_n 0, 1) := by decide +kernel
theorem dX12_seen_68 : decode cX12_seen 68 = .ok (.dup, 1) := by decide +kernel
theorem dX12_seen_69 : decode cX12_seen 69 = .ok (.getfield 392, 3) := by decide +kernel
theorem dX12_seen_72 : decode cX12_seen 72 = .ok (.iconst 1, 1) := by decide +kernel
theorem dX12_seen_73 : decode cX12_seen 73 = .ok (.iadd, 1) := by decide +kernel
theorem dX12_seen_74 : decode cX12_seen 74 = .ok (.putfield 392, 3) := by decide +kernel
theorem dX12_seen_77 : decode cX12_seen 77 = .ok (.aload_n 0, 1) := by decide +kernel
theorem dX12_seen_78 : decode cX12_seen 78 = .ok (.getfield 392, 3) := by decide +kernel
theorem dX12_seen_81 : decode cX12_seen 81 = .ok (.iconst 1, 1) := by decide +kernel
theorem dX12_seen_82 : decode cX12_seen 82 = .ok (.isub, 1) := by decide +kernel
theorem dX12_seen_83 : decode cX12_seen 83 = .ok (.ireturn, 1) := by decide +kernel
theorem dX12_untell_0 : decode cX12_untell 0 = .ok (.iload_n 1, 1) := by decide +kernel
theorem dX12_untell_1 : decode cX12_untell 1 = .ok (.iconst 0, 1) := by decide +kernel
theorem dX12_untell_2 : decode cX12_untell 2 = .ok (.aload_n 0, 1) := by decide +kernel
theorem dX12_untell_3 : decode cX12_untell 3 = .ok (.getfield 392, 3) := by decide +kernel
theorem dX12_untell_6 : decode cX12_untell 6 = .ok (.iconst 1, 1) := by decide +kernel
theorem dX12_untell_7 : decode cX12_untell 7 = .ok (.isub, 1) := by decide +kernel
theorem dX12_untell_8 : decode cX12_untell 8 = .ok (.invokestatic 398, 3) := by decide +kernel
theorem dX12_untell_11 : decode cX12_untell 11 = .ok (.ifCond .eq 12, 3) := by decide +kernel
theorem dX12_untell_14 : decode cX12_untell 14 = .ok (.aload_n 0, 1) := by decide +kernel
theorem dX12_untell_15 : decode cX12_untell 15 = .ok (.getfield 129, 3) := by decide +kernel
theorem dX12_untell_18 : decode cX12_untell 18 = .ok (.iload_n 1, 1) := by decide +kernel
theorem dX12_untell_19 : decode cX12_untell 19 = .ok (.iaload, 1) := by decide +kernel
theorem dX12_untell_20 : decode cX12_untell 20 = .ok (.ifCond .lt 5, 3) := by decide +kernel
theorem dX12_untell_23 : decode cX12_untell 23 = .ok (.iconst 0, 1) := by decide +kernel
theorem dX12_untell_24 : decode cX12_untell 24 = .ok (.ireturn, 1) := by decide +kernel
theorem dX12_untell_25 : decode cX12_untell 25 = .ok (.aload_n 0, 1) := by decide +kernel
theorem dX12_untell_26 : decode cX12_untell 26 = .ok (.getfield 129, 3) := by decide +kernel
theorem dX12_untell_29 : decode cX12_untell 29 = .ok (.iload_n 1, 1) := by decide +kernel
theorem dX12_untell_30 : decode cX12_untell 30 = .ok (.aload_n 0, 1) := by decide +kernel
theorem dX12_untell_31 : decode cX12_untell 31 = .ok (.getfield 573, 3) := by decide +kernel
theorem dX12_untell_34 : decode cX12_untell 34 = .ok (.iastore, 1) := by decide +kernel
theorem dX12_untell_35 : decode cX12_untell 35 = .ok (.iconst 1, 1) := by decide +kernel
theorem dX12_untell_36 : decode cX12_untell 36 = .ok (.ireturn, 1) := by decide +kernel
theorem dX12_later_0 : decode cX12_later 0 = .ok (.iload_n 1, 1) := by decide +kernel
theorem dX12_later_1 : decode cX12_later 1 = .ok (.ifCond .lt 22, 3) := by decide +kernel
theorem dX12_later_4 : decode cX12_later 4 = .ok (.iload_n 1, 1) := by decide +kernel
theorem dX12_later_5 : decode cX12_later 5 = .ok (.sipush 1000, 3) := by decide +kernel
theorem dX12_later_8 : decode cX12_later 8 = .ok (.if_icmp .gt 15, 3) := by decide +kernel
theorem dX12_later_11 : decode cX12_later 11 = .ok (.aload_n 0, 1) := by decide +kernel
theorem dX12_later_12 : decode cX12_later 12 = .ok (.getfield 573, 3) := by decide +kernel
theorem dX12_later_15 : decode cX12_later 15 = .ok (.iload_n 1, 1) := by decide +kernel
theorem dX12_later_16 : decode cX12_later 16 = .ok (.iadd, 1) := by decide +kernel
theorem dX12_later_17 : decode cX12_later 17 = .ok (.ldc_w 576, 3) := by decide +kernel
theorem dX12_later_20 : decode cX12_later 20 = .ok (.if_icmp .le 5, 3) := by decide +kernel
theorem dX12_later_23 : decode cX12_later 23 = .ok (.iconst (-1), 1) := by decide +kernel
theorem dX12_later_24 : decode cX12_later 24 = .ok (.ireturn, 1) := by decide +kernel
theorem dX12_later_25 : decode cX12_later 25 = .ok (.aload_n 0, 1) := by decide +kernel
theorem dX12_later_26 : decode cX12_later 26 = .ok (.dup, 1) := by decide +kernel
theorem dX12_later_27 : decode cX12_later 27 = .ok (.getfield 573, 3) := by decide +kernel
theorem dX12_later_30 : decode cX12_later 30 = .ok (.iload_n 1, 1) := by decide +kernel
theorem dX12_later_31 : decode cX12_later 31 = .ok (.iadd, 1) := by decide +kernel
theorem dX12_later_32 : decode cX12_later 32 = .ok (.putfield 573, 3) := by decide +kernel
theorem dX12_later_35 : decode cX12_later 35 = .ok (.aload_n 0, 1) := by decide +kernel
theorem dX12_later_36 : decode cX12_later 36 = .ok (.getfield 573, 3) := by decide +kernel
theorem dX12_later_39 : decode cX12_later 39 = .ok (.ireturn, 1) := by decide +kernel
theorem dX12_layFits_0 : decode cX12_layFits 0 = .ok (.iconst 0, 1) := by decide +kernel
theorem dX12_layFits_1 : decode cX12_layFits 1 = .ok (.istore_n 3, 1) := by decide +kernel
theorem dX12_layFits_2 : decode cX12_layFits 2 = .ok (.iconst 0, 1) := by decide +kernel
theorem dX12_layFits_3 : decode cX12_layFits 3 = .ok (.istore 4, 2) := by decide +kernel
theorem dX12_layFits_5 : decode cX12_layFits 5 = .ok (.iload 4, 2) := by decide +kernel
theorem dX12_layFits_7 : decode cX12_layFits 7 = .ok (.bipush 60, 2) := by decide +kernel
theorem dX12_layFits_9 : decode cX12_layFits 9 = .ok (.if_icmp .gt 179, 3) := by decide +kernel
theorem dX12_layFits_12 : decode cX12_layFits 12 = .ok (.iconst 0, 1) := by decide +kernel
theorem dX12_layFits_13 : decode cX12_layFits 13 = .ok (.istore 5, 2) := by decide +kernel
theorem dX12_layFits_15 : decode cX12_layFits 15 = .ok (.iconst 0, 1) := by decide +kernel
theorem dX12_layFits_16 : decode cX12_layFits 16 = .ok (.istore 6, 2) := by decide +kernel
theorem dX12_layFits_18 : decode cX12_layFits 18 = .ok (.iload 6, 2) := by decide +kernel
theorem dX12_layFits_20 : decode cX12_layFits 20 = .ok (.aload_n 0, 1) := by decide +kernel
theorem dX12_layFits_21 : decode cX12_layFits 21 = .ok (.getfield 371, 3) := by decide +kernel
theorem dX12_layFits_24 : decode cX12_layFits 24 = .ok (.if_icmp .ge 28, 3) := by decide +kernel
theorem dX12_layFits_27 : decode cX12_layFits 27 = .ok (.iload 5, 2) := by decide +kernel
theorem dX12_layFits_29 : decode cX12_layFits 29 = .ok (.aload_n 0, 1) := by decide +kernel
theorem dX12_layFits_30 : decode cX12_layFits 30 = .ok (.iload 6, 2) := by decide +kernel
theorem dX12_layFits_32 : decode cX12_layFits 32 = .ok (.iload 4, 2) := by decide +kernel
theorem dX12_layFits_34 : decode cX12_layFits 34 = .ok (.invokevirtual 411, 3) := by decide +kernel
theorem dX12_layFits_37 : decode cX12_layFits 37 = .ok (.invokestatic 304, 3) := by decide +kernel
theorem dX12_layFits_40 : decode cX12_layFits 40 = .ok (.iload 6, 2) := by decide +kernel
theorem dX12_layFits_42 : decode cX12_layFits 42 = .ok (.ishl, 1) := by decide +kernel
theorem dX12_layFits_43 : decode cX12_layFits 43 = .ok (.ior, 1) := by decide +kernel
theorem dX12_layFits_44 : decode cX12_layFits 44 = .ok (.istore 5, 2) := by decide +kernel
theorem dX12_layFits_46 : decode cX12_layFits 46 = .ok (.iinc 6 1, 3) := by decide +kernel
theorem dX12_layFits_49 : decode cX12_layFits 49 = .ok (.goto (-31), 3) := by decide +kernel
theorem dX12_layFits_52 : decode cX12_layFits 52 = .ok (.aload_n 0, 1) := by decide +kernel
theorem dX12_layFits_53 : decode cX12_layFits 53 = .ok (.getfield 136, 3) := by decide +kernel
theorem dX12_layFits_56 : decode cX12_layFits 56 = .ok (.iload 4, 2) := by decide +kernel
theorem dX12_layFits_58 : decode cX12_layFits 58 = .ok (.aload_n 0, 1) := by decide +kernel
theorem dX12_layFits_59 : decode cX12_layFits 59 = .ok (.iload 5, 2) := by decide +kernel
theorem dX12_layFits_61 : decode cX12_layFits 61 = .ok (.iload 4, 2) := by decide +kernel
theorem dX12_layFits_63 : decode cX12_layFits 63 = .ok (.iload_n 1, 1) := by decide +kernel
theorem dX12_layFits_64 : decode cX12_layFits 64 = .ok (.invokevirtual 521, 3) := by decide +kernel
theorem dX12_layFits_67 : decode cX12_layFits 67 = .ok (.iastore, 1) := by decide +kernel
theorem dX12_layFits_68 : decode cX12_layFits 68 = .ok (.iconst 1, 1) := by decide +kernel
theorem dX12_layFits_69 : decode cX12_layFits 69 = .ok (.istore 6, 2) := by decide +kernel
theorem dX12_layFits_71 : decode cX12_layFits 71 = .ok (.iconst 0, 1) := by decide +kernel
theorem dX12_layFits_72 : decode cX12_layFits 72 = .ok (.istore 7, 2) := by decide +kernel
theorem dX12_layFits_74 : decode cX12_layFits 74 = .ok (.iload 7, 2) := by decide +kernel
theorem dX12_layFits_76 : decode cX12_layFits 76 = .ok (.aload_n 0, 1) := by decide +kernel
theorem dX12_layFits_77 : decode cX12_layFits 77 = .ok (.getfield 392, 3) := by decide +kernel
theorem dX12_layFits_80 : decode cX12_layFits 80 = .ok (.if_icmp .ge 85, 3) := by decide +kernel
theorem dX12_layFits_83 : decode cX12_layFits 83 = .ok (.iload 6, 2) := by decide +kernel
theorem dX12_layFits_85 : decode cX12_layFits 85 = .ok (.ifCond .eq 71, 3) := by decide +kernel
theorem dX12_layFits_88 : decode cX12_layFits 88 = .ok (.aload_n 0, 1) := by decide +kernel
theorem dX12_layFits_89 : decode cX12_layFits 89 = .ok (.getfield 126, 3) := by decide +kernel
theorem dX12_layFits_92 : decode cX12_layFits 92 = .ok (.iload 7, 2) := by decide +kernel
theorem dX12_layFits_94 : decode cX12_layFits 94 = .ok (.iaload, 1) := by decide +kernel
theorem dX12_layFits_95 : decode cX12_layFits 95 = .ok (.iload_n 2, 1) := by decide +kernel
theorem dX12_layFits_96 : decode cX12_layFits 96 = .ok (.if_icmp .gt 56, 3) := by decide +kernel
theorem dX12_layFits_99 : decode cX12_layFits 99 = .ok (.aload_n 0, 1) := by decide +kernel
theorem dX12_layFits_100 : decode cX12_layFits 100 = .ok (.getfield 129, 3) := by decide +kernel
theorem dX12_layFits_103 : decode cX12_layFits 103 = .ok (.iload 7, 2) := by decide +kernel
theorem dX12_layFits_105 : decode cX12_layFits 105 = .ok (.iaload, 1) := by decide +kernel
theorem dX12_layFits_106 : decode cX12_layFits 106 = .ok (.ifCond .lt 14, 3) := by decide +kernel
theorem dX12_layFits_109 : decode cX12_layFits 109 = .ok (.aload_n 0, 1) := by decide +kernel
theorem dX12_layFits_110 : decode cX12_layFits 110 = .ok (.getfield 129, 3) := by decide +kernel
theorem dX12_layFits_113 : decode cX12_layFits 113 = .ok (.iload 7, 2) := by decide +kernel
theorem dX12_layFits_115 : decode cX12_layFits 115 = .ok (.iaload, 1) := by decide +kernel
theorem dX12_layFits_116 : decode cX12_layFits 116 = .ok (.iload_n 2, 1) := by decide +kernel
theorem dX12_layFits_117 : decode cX12_layFits 117 = .ok (.if_icmp .le 35, 3) := by decide +kernel
theorem dX12_layFits_120 : decode cX12_layFits 120 = .ok (.aload_n 0, 1) := by decide +kernel
theorem dX12_layFits_121 : decode cX12_layFits 121 = .ok (.getfield 136, 3) := by decide +kernel
theorem dX12_layFits_124 : decode cX12_layFits 124 = .ok (.iload 4, 2) := by decide +kernel
theorem dX12_layFits_126 : decode cX12_layFits 126 = .ok (.iaload, 1) := by decide +kernel
theorem dX12_layFits_127 : decode cX12_layFits 127 = .ok (.aload_n 0, 1) := by decide +kernel
theorem dX12_layFits_128 : decode cX12_layFits 128 = .ok (.getfield 123, 3) := by decide +kernel
theorem dX12_layFits_131 : decode cX12_layFits 131 = .ok (.iload 7, 2) := by decide +kernel
theorem dX12_layFits_133 : decode cX12_layFits 133 = .ok (.iaload, 1) := by decide +kernel
theorem dX12_layFits_134 : decode cX12_layFits 134 = .ok (.if_icmp .ne 7, 3) := by decide +kernel
theorem dX12_layFits_137 : decode cX12_layFits 137 = .ok (.iconst 1, 1) := by decide +kernel
theorem dX12_layFits_138 : decode cX12_layFits 138 = .ok (.goto 4, 3) := by decide +kernel
theorem dX12_layFits_141 : decode cX12_layFits 141 = .ok (.iconst 0, 1) := by decide +kernel
theorem dX12_layFits_142 : decode cX12_layFits 142 = .ok (.aload_n 0, 1) := by decide +kernel
theorem dX12_layFits_143 : decode cX12_layFits 143 = .ok (.getfield 132, 3) := by decide +kernel
theorem dX12_layFits_146 : decode cX12_layFits 146 = .ok (.iload 7, 2) := by decide +kernel
theorem dX12_layFits_148 : decode cX12_layFits 148 = .ok (.baload, 1) := by decide +kernel
theorem dX12_layFits_149 : decode cX12_layFits 149 = .ok (.if_icmp .ne 7, 3) := by decide +kernel
theorem dX12_layFits_152 : decode cX12_layFits 152 = .ok (.iconst 1, 1) := by decide +kernel
theorem dX12_layFits_153 : decode cX12_layFits 153 = .ok (.goto 4, 3) := by decide +kernel
theorem dX12_layFits_156 : decode cX12_layFits 156 = .ok (.iconst 0, 1) := by decide +kernel
theorem dX12_layFits_157 : decode cX12_layFits 157 = .ok (.istore 6, 2) := by decide +kernel
theorem dX12_layFits_159 : decode cX12_layFits 159 = .ok (.iinc 7 1, 3) := by decide +kernel
theorem dX12_layFits_162 : decode cX12_layFits 162 = .ok (.goto (-88), 3) := by decide +kernel
theorem dX12_layFits_165 : decode cX12_layFits 165 = .ok (.aload_n 0, 1) := by decide +kernel
theorem dX12_layFits_166 : decode cX12_layFits 166 = .ok (.getfield 139, 3) := by decide +kernel
theorem dX12_layFits_169 : decode cX12_layFits 169 = .ok (.iload 4, 2) := by decide +kernel
theorem dX12_layFits_171 : decode cX12_layFits 171 = .ok (.iload 6, 2) := by decide +kernel
theorem dX12_layFits_173 : decode cX12_layFits 173 = .ok (.bastore, 1) := by decide +kernel
theorem dX12_layFits_174 : decode cX12_layFits 174 = .ok (.iload_n 3, 1) := by decide +kernel
theorem dX12_layFits_175 : decode cX12_layFits 175 = .ok (.iload 6, 2) := by decide +kernel
theorem dX12_layFits_177 : decode cX12_layFits 177 = .ok (.invokestatic 304, 3) := by decide +kernel
theorem dX12_layFits_180 : decode cX12_layFits 180 = .ok (.iadd, 1) := by decide +kernel
theorem dX12_layFits_181 : decode cX12_layFits 181 = .ok (.istore_n 3, 1) := by decide +kernel
theorem dX12_layFits_182 : decode cX12_layFits 182 = .ok (.iinc 4 1, 3) := by decide +kernel
theorem dX12_layFits_185 : decode cX12_layFits 185 = .ok (.goto (-180), 3) := by decide +kernel
theorem dX12_layFits_188 : decode cX12_layFits 188 = .ok (.iload_n 3, 1) := by decide +kernel
theorem dX12_layFits_189 : decode cX12_layFits 189 = .ok (.ireturn, 1) := by decide +kernel
theorem dX12_isHeight_0 : decode cX12_isHeight 0 = .ok (.iload_n 0, 1) := by decide +kernel
theorem dX12_isHeight_1 : decode cX12_isHeight 1 = .ok (.bipush (-9), 2) := by decide +kernel
theorem dX12_isHeight_3 : decode cX12_isHeight 3 = .ok (.bipush 99, 2) := by decide +kernel
theorem dX12_isHeight_5 : decode cX12_isHeight 5 = .ok (.invokestatic 398, 3) := by decide +kernel
theorem dX12_isHeight_8 : decode cX12_isHeight 8 = .ok (.ireturn, 1) := by decide +kernel
theorem dX12_fits_0 : decode cX12_fits 0 = .ok (.iload_n 1, 1) := by decide +kernel
theorem dX12_fits_1 : decode cX12_fits 1 = .ok (.invokestatic 577, 3) := by decide +kernel
theorem dX12_fits_4 : decode cX12_fits 4 = .ok (.ifCond .eq 12, 3) := by decide +kernel
theorem dX12_fits_7 : decode cX12_fits 7 = .ok (.aload_n 0, 1) := by decide +kernel
theorem dX12_fits_8 : decode cX12_fits 8 = .ok (.iload_n 1, 1) := by decide +kernel
theorem dX12_fits_9 : decode cX12_fits 9 = .ok (.iload_n 2, 1) := by decide +kernel
theorem dX12_fits_10 : decode cX12_fits 10 = .ok (.invokevirtual 580, 3) := by decide +kernel
theorem dX12_fits_13 : decode cX12_fits 13 = .ok (.goto 4, 3) := by decide +kernel
theorem dX12_fits_16 : decode cX12_fits 16 = .ok (.iconst (-1), 1) := by decide +kernel
theorem dX12_fits_17 : decode cX12_fits 17 = .ok (.ireturn, 1) := by decide +kernel
theorem dX12_sure_0 : decode cX12_sure 0 = .ok (.iload_n 1, 1) := by decide +kernel
theorem dX12_sure_1 : decode cX12_sure 1 = .ok (.invokestatic 577, 3) := by decide +kernel
theorem dX12_sure_4 : decode cX12_sure 4 = .ok (.ifCond .eq 21, 3) := by decide +kernel
theorem dX12_sure_7 : decode cX12_sure 7 = .ok (.iload_n 2, 1) := by decide +kernel
theorem dX12_sure_8 : decode cX12_sure 8 = .ok (.iconst 0, 1) := by decide +kernel
theorem dX12_sure_9 : decode cX12_sure 9 = .ok (.iconst 1, 1) := by decide +kernel
theorem dX12_sure_10 : decode cX12_sure 10 = .ok (.invokestatic 398, 3) := by decide +kernel
theorem dX12_sure_13 : decode cX12_sure 13 = .ok (.ifCond .eq 12, 3) := by decide +kernel
theorem dX12_sure_16 : decode cX12_sure 16 = .ok (.aload_n 0, 1) := by decide +kernel
theorem dX12_sure_17 : decode cX12_sure 17 = .ok (.iload_n 1, 1) := by decide +kernel
theorem dX12_sure_18 : decode cX12_sure 18 = .ok (.iload_n 3, 1) := by decide +kernel
theorem dX12_sure_19 : decode cX12_sure 19 = .ok (.invokevirtual 580, 3) := by decide +kernel
theorem dX12_sure_22 : decode cX12_sure 22 = .ok (.ifCond .ne 5, 3) := by decide +kernel
theorem dX12_sure_25 : decode cX12_sure 25 = .ok (.iconst (-1), 1) := by decide +kernel
theorem dX12_sure_26 : decode cX12_sure 26 = .ok (.ireturn, 1) := by decide +kernel
theorem dX12_sure_27 : decode cX12_sure 27 = .ok (.iconst (-1), 1) := by decide +kernel
theorem dX12_sure_28 : decode cX12_sure 28 = .ok (.istore 4, 2) := by decide +kernel
theorem dX12_sure_30 : decode cX12_sure 30 = .ok (.iconst 0, 1) := by decide +kernel
theorem dX12_sure_31 : decode cX12_sure 31 = .ok (.istore 5, 2) := by decide +kernel
theorem dX12_sure_33 : decode cX12_sure 33 = .ok (.iload 5, 2) := by decide +kernel
theorem dX12_sure_35 : decode cX12_sure 35 = .ok (.bipush 60, 2) := by decide +kernel
theorem dX12_sure_37 : decode cX12_sure 37 = .ok (.if_icmp .gt 33, 3) := by decide +kernel
theorem dX12_sure_40 : decode cX12_sure 40 = .ok (.aload_n 0, 1) := by decide +kernel
theorem dX12_sure_41 : decode cX12_sure 41 = .ok (.getfield 139, 3) := by decide +kernel
theorem dX12_sure_44 : decode cX12_sure 44 = .ok (.iload 5, 2) := by decide +kernel
theorem dX12_sure_46 : decode cX12_sure 46 = .ok (.baload, 1) := by decide +kernel
theorem dX12_sure_47 : decode cX12_sure 47 = .ok (.ifCond .eq 17, 3) := by decide +kernel
theorem dX12_sure_50 : decode cX12_sure 50 = .ok (.iload 4, 2) := by decide +kernel
theorem dX12_sure_52 : decode cX12_sure 52 = .ok (.ifCond .lt 8, 3) := by decide +kernel
theorem dX12_sure_55 : decode cX12_sure 55 = .ok (.iload_n 2, 1) := by decide +kernel
theorem dX12_sure_56 : decode cX12_sure 56 = .ok (.iconst 1, 1) := by decide +kernel
theorem dX12_sure_57 : decode cX12_sure 57 = .ok (.if_icmp .ne 7, 3) := by decide +kernel
theorem dX12_sure_60 : decode cX12_sure 60 = .ok (.iload 5, 2) := by decide +kernel
theorem dX12_sure_62 : decode cX12_sure 62 = .ok (.istore 4, 2) := by decide +kernel
theorem dX12_sure_64 : decode cX12_sure 64 = .ok (.iinc 5 1, 3) := by decide +kernel
theorem dX12_sure_67 : decode cX12_sure 67 = .ok (.goto (-34), 3) := by decide +kernel
theorem dX12_sure_70 : decode cX12_sure 70 = .ok (.iload 4, 2) := by decide +kernel
theorem dX12_sure_72 : decode cX12_sure 72 = .ok (.ireturn, 1) := by decide +kernel
theorem dX12_leftBy_0 : decode cX12_leftBy 0 = .ok (.iconst 0, 1) := by decide +kernel
theorem dX12_leftBy_1 : decode cX12_leftBy 1 = .ok (.istore_n 3, 1) := by decide +kernel
theorem dX12_leftBy_2 : decode cX12_leftBy 2 = .ok (.iconst 0, 1) := by decide +kernel
theorem dX12_leftBy_3 : decode cX12_leftBy 3 = .ok (.istore 4, 2) := by decide +kernel
theorem dX12_leftBy_5 : decode cX12_leftBy 5 = .ok (.iload 4, 2) := by decide +kernel
theorem dX12_leftBy_7 : decode cX12_leftBy 7 = .ok (.bipush 60, 2) := by decide +kernel
theorem dX12_leftBy_9 : decode cX12_leftBy 9 = .ok (.if_icmp .gt 41, 3) := by decide +kernel
theorem dX12_leftBy_12 : decode cX12_leftBy 12 = .ok (.iload_n 3, 1) := by decide +kernel
theorem dX12_leftBy_13 : decode cX12_leftBy 13 = .ok (.aload_n 0, 1) := by decide +kernel
theorem dX12_leftBy_14 : decode cX12_leftBy 14 = .ok (.getfield 139, 3) := by decide +kernel
theorem dX12_leftBy_17 : decode cX12_leftBy 17 = .ok (.iload 4, 2) := by decide +kernel
theorem dX12_leftBy_19 : decode cX12_leftBy 19 = .ok (.baload, 1) := by decide +kernel
theorem dX12_leftBy_20 : decode cX12_leftBy 20 = .ok (.ifCond .eq 18, 3) := by decide +kernel
theorem dX12_leftBy_23 : decode cX12_leftBy 23 = .ok (.aload_n 0, 1) := by decide +kernel
theorem dX12_leftBy_24 : decode cX12_leftBy 24 = .ok (.getfield 136, 3) := by decide +kernel
theorem dX12_leftBy_27 : decode cX12_leftBy 27 = .ok (.iload 4, 2) := by decide +kernel
theorem dX12_leftBy_29 : decode cX12_leftBy 29 = .ok (.iaload, 1) := by decide +kernel
theorem dX12_leftBy_30 : decode cX12_leftBy 30 = .ok (.iload_n 1, 1) := by decide +kernel
theorem dX12_leftBy_31 : decode cX12_leftBy 31 = .ok (.if_icmp .ne 7, 3) := by decide +kernel
theorem dX12_leftBy_34 : decode cX12_leftBy 34 = .ok (.iconst 1, 1) := by decide +kernel
theorem dX12_leftBy_35 : decode cX12_leftBy 35 = .ok (.goto 4, 3) := by decide +kernel
theorem dX12_leftBy_38 : decode cX12_leftBy 38 = .ok (.iconst 0, 1) := by decide +kernel
theorem dX12_leftBy_39 : decode cX12_leftBy 39 = .ok (.invokestatic 304, 3) := by decide +kernel
theorem dX12_leftBy_42 : decode cX12_leftBy 42 = .ok (.iadd, 1) := by decide +kernel
theorem dX12_leftBy_43 : decode cX12_leftBy 43 = .ok (.istore_n 3, 1) := by decide +kernel
theorem dX12_leftBy_44 : decode cX12_leftBy 44 = .ok (.iinc 4 1, 3) := by decide +kernel
theorem dX12_leftBy_47 : decode cX12_leftBy 47 = .ok (.goto (-42), 3) := by decide +kernel
theorem dX12_leftBy_50 : decode cX12_leftBy 50 = .ok (.iload_n 3, 1) := by decide +kernel
theorem dX12_leftBy_51 : decode cX12_leftBy 51 = .ok (.iload_n 2, 1) := by decide +kernel
theorem dX12_leftBy_52 : decode cX12_leftBy 52 = .ok (.iload_n 3, 1) := by decide +kernel
theorem dX12_leftBy_53 : decode cX12_leftBy 53 = .ok (.isub, 1) := by decide +kernel
theorem dX12_leftBy_54 : decode cX12_leftBy 54 = .ok (.invokestatic 324, 3) := by decide +kernel
theorem dX12_leftBy_57 : decode cX12_leftBy 57 = .ok (.ireturn, 1) := by decide +kernel
theorem dX12_ask_0 : decode cX12_ask 0 = .ok (.iload_n 1, 1) := by decide +kernel
theorem dX12_ask_1 : decode cX12_ask 1 = .ok (.invokestatic 577, 3) := by decide +kernel
theorem dX12_ask_4 : decode cX12_ask 4 = .ok (.ifCond .eq 19, 3) := by decide +kernel
theorem dX12_ask_7 : decode cX12_ask 7 = .ok (.iload_n 2, 1) := by decide +kernel
theorem dX12_ask_8 : decode cX12_ask 8 = .ok (.iconst 0, 1) := by decide +kernel
theorem dX12_ask_9 : decode cX12_ask 9 = .ok (.iconst 1, 1) := by decide +kernel
theorem dX12_ask_10 : decode cX12_ask 10 = .ok (.invokestatic 398, 3) := by decide +kernel
theorem dX12_ask_13 : decode cX12_ask 13 = .ok (.ifCond .eq 10, 3) := by decide +kernel
theorem dX12_ask_16 : decode cX12_ask 16 = .ok (.aload_n 0, 1) := by decide +kernel
theorem dX12_ask_17 : decode cX12_ask 17 = .ok (.getfield 371, 3) := by decide +kernel
theorem dX12_ask_20 : decode cX12_ask 20 = .ok (.ifCond .ne 5, 3) := by decide +kernel
theorem dX12_ask_23 : decode cX12_ask 23 = .ok (.iconst (-1), 1) := by decide +kernel
theorem dX12_ask_24 : decode cX12_ask 24 = .ok (.ireturn, 1) := by decide +kernel
theorem dX12_ask_25 : decode cX12_ask 25 = .ok (.aload_n 0, 1) := by decide +kernel
theorem dX12_ask_26 : decode cX12_ask 26 = .ok (.iload_n 1, 1) := by decide +kernel
theorem dX12_ask_27 : decode cX12_ask 27 = .ok (.iload_n 3, 1) := by decide +kernel
theorem dX12_ask_28 : decode cX12_ask 28 = .ok (.invokevirtual 580, 3) := by decide +kernel
theorem dX12_ask_31 : decode cX12_ask 31 = .ok (.istore 4, 2) := by decide +kernel
theorem dX12_ask_33 : decode cX12_ask 33 = .ok (.iload 4, 2) := by decide +kernel
theorem dX12_ask_35 : decode cX12_ask 35 = .ok (.ifCond .ne 5, 3) := by decide +kernel
theorem dX12_ask_38 : decode cX12_ask 38 = .ok (.iconst (-1), 1) := by decide +kernel
theorem dX12_ask_39 : decode cX12_ask 39 = .ok (.ireturn, 1) := by decide +kernel
theorem dX12_ask_40 : decode cX12_ask 40 = .ok (.iconst 0, 1) := by decide +kernel
theorem dX12_ask_41 : decode cX12_ask 41 = .ok (.istore 5, 2) := by decide +kernel
theorem dX12_ask_43 : decode cX12_ask 43 = .ok (.iconst 1, 1) := by decide +kernel
theorem dX12_ask_44 : decode cX12_ask 44 = .ok (.istore 6, 2) := by decide +kernel
theorem dX12_ask_46 : decode cX12_ask 46 = .ok (.iload 6, 2) := by decide +kernel
theorem dX12_ask_48 : decode cX12_ask 48 = .ok (.aload_n 0, 1) := by decide +kernel
theorem dX12_ask_49 : decode cX12_ask 49 = .ok (.getfield 371, 3) := by decide +kernel
theorem dX12_ask_52 : decode cX12_ask 52 = .ok (.if_icmp .ge 37, 3) := by decide +kernel
theorem dX12_ask_55 : decode cX12_ask 55 = .ok (.aload_n 0, 1) := by decide +kernel
theorem dX12_ask_56 : decode cX12_ask 56 = .ok (.iload 6, 2) := by decide +kernel
theorem dX12_ask_58 : decode cX12_ask 58 = .ok (.iload 4, 2) := by decide +kernel
theorem dX12_ask_60 : decode cX12_ask 60 = .ok (.invokevirtual 583, 3) := by decide +kernel
theorem dX12_ask_63 : decode cX12_ask 63 = .ok (.aload_n 0, 1) := by decide +kernel
theorem dX12_ask_64 : decode cX12_ask 64 = .ok (.iload 5, 2) := by decide +kernel
theorem dX12_ask_66 : decode cX12_ask 66 = .ok (.iload 4, 2) := by decide +kernel
theorem dX12_ask_68 : decode cX12_ask 68 = .ok (.invokevirtual 583, 3) := by decide +kernel
theorem dX12_ask_71 : decode cX12_ask 71 = .ok (.if_icmp .ge 8, 3) := by decide +kernel
theorem dX12_ask_74 : decode cX12_ask 74 = .ok (.iload 6, 2) := by decide +kernel
theorem dX12_ask_76 : decode cX12_ask 76 = .ok (.goto 5, 3) := by decide +kernel
theorem dX12_ask_79 : decode cX12_ask 79 = .ok (.iload 5, 2) := by decide +kernel
theorem dX12_ask_81 : decode cX12_ask 81 = .ok (.istore 5, 2) := by decide +kernel
theorem dX12_ask_83 : decode cX12_ask 83 = .ok (.iinc 6 1, 3) := by decide +kernel
theorem dX12_ask_86 : decode cX12_ask 86 = .ok (.goto (-40), 3) := by decide +kernel
theorem dX12_ask_89 : decode cX12_ask 89 = .ok (.iload_n 2, 1) := by decide +kernel
theorem dX12_ask_90 : decode cX12_ask 90 = .ok (.ifCond .ne 8, 3) := by decide +kernel
theorem dX12_ask_93 : decode cX12_ask 93 = .ok (.iload 5, 2) := by decide +kernel
theorem dX12_ask_95 : decode cX12_ask 95 = .ok (.goto 11, 3) := by decide +kernel
theorem dX12_ask_98 : decode cX12_ask 98 = .ok (.aload_n 0, 1) := by decide +kernel
theorem dX12_ask_99 : decode cX12_ask 99 = .ok (.iload 5, 2) := by decide +kernel
theorem dX12_ask_101 : decode cX12_ask 101 = .ok (.iload 4, 2) := by decide +kernel
theorem dX12_ask_103 : decode cX12_ask 103 = .ok (.invokevirtual 583, 3) := by decide +kernel
theorem dX12_ask_106 : decode cX12_ask 106 = .ok (.ireturn, 1) := by decide +kernel
theorem dX12_isBox_0 : decode cX12_isBox 0 = .ok (.iload_n 0, 1) := by decide +kernel
theorem dX12_isBox_1 : decode cX12_isBox 1 = .ok (.ifCond .lt 12, 3) := by decide +kernel
theorem dX12_isBox_4 : decode cX12_isBox 4 = .ok (.iload_n 0, 1) := by decide +kernel
theorem dX12_isBox_5 : decode cX12_isBox 5 = .ok (.iconst 3, 1) := by decide +kernel
theorem dX12_isBox_6 : decode cX12_isBox 6 = .ok (.if_icmp .ge 7, 3) := by decide +kernel
theorem dX12_isBox_9 : decode cX12_isBox 9 = .ok (.iconst 1, 1) := by decide +kernel
theorem dX12_isBox_10 : decode cX12_isBox 10 = .ok (.goto 4, 3) := by decide +kernel
theorem dX12_isBox_13 : decode cX12_isBox 13 = .ok (.iconst 0, 1) := by decide +kernel
theorem dX12_isBox_14 : decode cX12_isBox 14 = .ok (.ireturn, 1) := by decide +kernel
theorem dX12_image_0 : decode cX12_image 0 = .ok (.iload_n 1, 1) := by decide +kernel
theorem dX12_image_1 : decode cX12_image 1 = .ok (.invokestatic 586, 3) := by decide +kernel
theorem dX12_image_4 : decode cX12_image 4 = .ok (.ifCond .ne 5, 3) := by decide +kernel
theorem dX12_image_7 : decode cX12_image 7 = .ok (.iconst (-1), 1) := by decide +kernel
theorem dX12_image_8 : decode cX12_image 8 = .ok (.ireturn, 1) := by decide +kernel
theorem dX12_image_9 : decode cX12_image 9 = .ok (.aload_n 0, 1) := by decide +kernel
theorem dX12_image_10 : decode cX12_image 10 = .ok (.getfield 142, 3) := by decide +kernel
theorem dX12_image_13 : decode cX12_image 13 = .ok (.iload_n 1, 1) := by decide +kernel
theorem dX12_image_14 : decode cX12_image 14 = .ok (.iconst 1, 1) := by decide +kernel
theorem dX12_image_15 : decode cX12_image 15 = .ok (.bastore, 1) := by decide +kernel
theorem dX12_image_16 : decode cX12_image 16 = .ok (.aload_n 0, 1) := by decide +kernel
theorem dX12_image_17 : decode cX12_image 17 = .ok (.getfield 148, 3) := by decide +kernel
theorem dX12_image_20 : decode cX12_image 20 = .ok (.iload_n 1, 1) := by decide +kernel
theorem dX12_image_21 : decode cX12_image 21 = .ok (.aload_n 0, 1) := by decide +kernel
theorem dX12_image_22 : decode cX12_image 22 = .ok (.getfield 383, 3) := by decide +kernel
theorem dX12_image_25 : decode cX12_image 25 = .ok (.iastore, 1) := by decide +kernel
theorem dX12_image_26 : decode cX12_image 26 = .ok (.iconst 0, 1) := by decide +kernel
theorem dX12_image_27 : decode cX12_image 27 = .ok (.istore_n 2, 1) := by decide +kernel
theorem dX12_image_28 : decode cX12_image 28 = .ok (.iload_n 2, 1) := by decide +kernel
theorem dX12_image_29 : decode cX12_image 29 = .ok (.sipush 7565, 3) := by decide +kernel
theorem dX12_image_32 : decode cX12_image 32 = .ok (.if_icmp .ge 27, 3) := by decide +kernel
theorem dX12_image_35 : decode cX12_image 35 = .ok (.aload_n 0, 1) := by decide +kernel
theorem dX12_image_36 : decode cX12_image 36 = .ok (.getfield 145, 3) := by decide +kernel
theorem dX12_image_39 : decode cX12_image 39 = .ok (.sipush 7565, 3) := by decide +kernel
theorem dX12_image_42 : decode cX12_image 42 = .ok (.iload_n 1, 1) := by decide +kernel
theorem dX12_image_43 : decode cX12_image 43 = .ok (.imul, 1) := by decide +kernel
theorem dX12_image_44 : decode cX12_image 44 = .ok (.iload_n 2, 1) := by decide +kernel
theorem dX12_image_45 : decode cX12_image 45 = .ok (.iadd, 1) := by decide +kernel
theorem dX12_image_46 : decode cX12_image 46 = .ok (.aload_n 0, 1) := by decide +kernel
theorem dX12_image_47 : decode cX12_image 47 = .ok (.getfield 75, 3) := by decide +kernel
theorem dX12_image_50 : decode cX12_image 50 = .ok (.iload_n 2, 1) := by decide +kernel
theorem dX12_image_51 : decode cX12_image 51 = .ok (.iaload, 1) := by decide +kernel
theorem dX12_image_52 : decode cX12_image 52 = .ok (.iastore, 1) := by decide +kernel
theorem dX12_image_53 : decode cX12_image 53 = .ok (.iinc 2 1, 3) := by decide +kernel
theorem dX12_image_56 : decode cX12_image 56 = .ok (.goto (-28), 3) := by decide +kernel
theorem dX12_image_59 : decode cX12_image 59 = .ok (.iconst 0, 1) := by decide +kernel
theorem dX12_image_60 : decode cX12_image 60 = .ok (.istore_n 2, 1) := by decide +kernel
theorem dX12_image_61 : decode cX12_image 61 = .ok (.iload_n 2, 1) := by decide +kernel
theorem dX12_image_62 : decode cX12_image 62 = .ok (.aload_n 0, 1) := by decide +kernel
theorem dX12_image_63 : decode cX12_image 63 = .ok (.invokevirtual 469, 3) := by decide +kernel
theorem dX12_image_66 : decode cX12_image 66 = .ok (.if_icmp .ge 34, 3) := by decide +kernel
theorem dX12_image_69 : decode cX12_image 69 = .ok (.aload_n 0, 1) := by decide +kernel
theorem dX12_image_70 : decode cX12_image 70 = .ok (.getfield 145, 3) := by decide +kernel
theorem dX12_image_73 : decode cX12_image 73 = .ok (.sipush 7565, 3) := by decide +kernel
theorem dX12_image_76 : decode cX12_image 76 = .ok (.iload_n 1, 1) := by decide +kernel
theorem dX12_image_77 : decode cX12_image 77 = .ok (.imul, 1) := by decide +kernel
theorem dX12_image_78 : decode cX12_image 78 = .ok (.sipush 1485, 3) := by decide +kernel
theorem dX12_image_81 : decode cX12_image 81 = .ok (.iadd, 1) := by decide +kernel
theorem dX12_image_82 : decode cX12_image 82 = .ok (.iload_n 2, 1) := by decide +kernel
theorem dX12_image_83 : decode cX12_image 83 = .ok (.iadd, 1) := by decide +kernel
theorem dX12_image_84 : decode cX12_image 84 = .ok (.aload_n 0, 1) := by decide +kernel
theorem dX12_image_85 : decode cX12_image 85 = .ok (.iload_n 2, 1) := by decide +kernel
theorem dX12_image_86 : decode cX12_image 86 = .ok (.aload_n 0, 1) := by decide +kernel
theorem dX12_image_87 : decode cX12_image 87 = .ok (.getfield 383, 3) := by decide +kernel
theorem dX12_image_90 : decode cX12_image 90 = .ok (.invokevirtual 417, 3) := by decide +kernel
theorem dX12_image_93 : decode cX12_image 93 = .ok (.iastore, 1) := by decide +kernel
theorem dX12_image_94 : decode cX12_image 94 = .ok (.iinc 2 1, 3) := by decide +kernel
theorem dX12_image_97 : decode cX12_image 97 = .ok (.goto (-36), 3) := by decide +kernel
theorem dX12_image_100 : decode cX12_image 100 = .ok (.aload_n 0, 1) := by decide +kernel
theorem dX12_image_101 : decode cX12_image 101 = .ok (.getfield 383, 3) := by decide +kernel
theorem dX12_image_104 : decode cX12_image 104 = .ok (.ireturn, 1) := by decide +kernel
theorem dX12_back_0 : decode cX12_back 0 = .ok (.iload_n 1, 1) := by decide +kernel
theorem dX12_back_1 : decode cX12_back 1 = .ok (.invokestatic 586, 3) := by decide +kernel
theorem dX12_back_4 : decode cX12_back 4 = .ok (.ifCond .eq 12, 3) := by decide +kernel
theorem dX12_back_7 : decode cX12_back 7 = .ok (.aload_n 0, 1) := by decide +kernel
theorem dX12_back_8 : decode cX12_back 8 = .ok (.getfield 142, 3) := by decide +kernel
theorem dX12_back_11 : decode cX12_back 11 = .ok (.iload_n 1, 1) := by decide +kernel
theorem dX12_back_12 : decode cX12_back 12 = .ok (.baload, 1) := by decide +kernel
theorem dX12_back_13 : decode cX12_back 13 = .ok (.ifCond .ne 5, 3) := by decide +kernel
theorem dX12_back_16 : decode cX12_back 16 = .ok (.iconst (-1), 1) := by decide +kernel
theorem dX12_back_17 : decode cX12_back 17 = .ok (.ireturn, 1) := by decide +kernel
theorem dX12_back_18 : decode cX12_back 18 = .ok (.iconst 0, 1) := by decide +kernel
theorem dX12_back_19 : decode cX12_back 19 = .ok (.istore_n 2, 1) := by decide +kernel
theorem dX12_back_20 : decode cX12_back 20 = .ok (.iload_n 2, 1) := by decide +kernel
theorem dX12_back_21 : decode cX12_back 21 = .ok (.sipush 7565, 3) := by decide +kernel
theorem dX12_back_24 : decode cX12_back 24 = .ok (.if_icmp .ge 27, 3) := by decide +kernel
theorem dX12_back_27 : decode cX12_back 27 = .ok (.aload_n 0, 1) := by decide +kernel
theorem dX12_back_28 : decode cX12_back 28 = .ok (.getfield 75, 3) := by decide +kernel
theorem dX12_back_31 : decode cX12_back 31 = .ok (.iload_n 2, 1) := by decide +kernel
theorem dX12_back_32 : decode cX12_back 32 = .ok (.aload_n 0, 1) := by decide +kernel
theorem dX12_back_33 : decode cX12_back 33 = .ok (.getfield 145, 3) := by decide +kernel
theorem dX12_back_36 : decode cX12_back 36 = .ok (.sipush 7565, 3) := by decide +kernel
theorem dX12_back_39 : decode cX12_back 39 = .ok (.iload_n 1, 1) := by decide +kernel
theorem dX12_back_40 : decode cX12_back 40 = .ok (.imul, 1) := by decide +kernel
theorem dX12_back_41 : decode cX12_back 41 = .ok (.iload_n 2, 1) := by decide +kernel
theorem dX12_back_42 : decode cX12_back 42 = .ok (.iadd, 1) := by decide +kernel
theorem dX12_back_43 : decode cX12_back 43 = .ok (.iaload, 1) := by decide +kernel
theorem dX12_back_44 : decode cX12_back 44 = .ok (.iastore, 1) := by decide +kernel
theorem dX12_back_45 : decode cX12_back 45 = .ok (.iinc 2 1, 3) := by decide +kernel
theorem dX12_back_48 : decode cX12_back 48 = .ok (.goto (-28), 3) := by decide +kernel
theorem dX12_back_51 : decode cX12_back 51 = .ok (.aload_n 0, 1) := by decide +kernel
theorem dX12_back_52 : decode cX12_back 52 = .ok (.aload_n 0, 1) := by decide +kernel
theorem dX12_back_53 : decode cX12_back 53 = .ok (.getfield 148, 3) := by decide +kernel
theorem dX12_back_56 : decode cX12_back 56 = .ok (.iload_n 1, 1) := by decide +kernel
theorem dX12_back_57 : decode cX12_back 57 = .ok (.iaload, 1) := by decide +kernel
theorem dX12_back_58 : decode cX12_back 58 = .ok (.putfield 383, 3) := by decide +kernel
theorem dX12_back_61 : decode cX12_back 61 = .ok (.aload_n 0, 1) := by decide +kernel
theorem dX12_back_62 : decode cX12_back 62 = .ok (.aload_n 0, 1) := by decide +kernel
theorem dX12_back_63 : decode cX12_back 63 = .ok (.getfield 383, 3) := by decide +kernel
theorem dX12_back_66 : decode cX12_back 66 = .ok (.putfield 386, 3) := by decide +kernel
theorem dX12_back_69 : decode cX12_back 69 = .ok (.aload_n 0, 1) := by decide +kernel
theorem dX12_back_70 : decode cX12_back 70 = .ok (.aload_n 0, 1) := by decide +kernel
theorem dX12_back_71 : decode cX12_back 71 = .ok (.getfield 383, 3) := by decide +kernel
theorem dX12_back_74 : decode cX12_back 74 = .ok (.putfield 389, 3) := by decide +kernel
theorem dX12_back_77 : decode cX12_back 77 = .ok (.aload_n 0, 1) := by decide +kernel
theorem dX12_back_78 : decode cX12_back 78 = .ok (.getfield 383, 3) := by decide +kernel
theorem dX12_back_81 : decode cX12_back 81 = .ok (.ireturn, 1) := by decide +kernel
theorem dX12_about_0 : decode cX12_about 0 = .ok (.iload_n 1, 1) := by decide +kernel
theorem dX12_about_1 : decode cX12_about 1 = .ok (.tableswitch 150 0 12 #[67, 72, 77, 86, 95, 100, 105, 115, 125, 130, 135, 140, 145], 67) := by decide +kernel
theorem dX12_about_68 : decode cX12_about 68 = .ok (.aload_n 0, 1) := by decide +kernel
theorem dX12_about_69 : decode cX12_about 69 = .ok (.getfield 371, 3) := by decide +kernel
theorem dX12_about_72 : decode cX12_about 72 = .ok (.ireturn, 1) := by decide +kernel
theorem dX12_about_73 : decode cX12_about 73 = .ok (.aload_n 0, 1) := by decide +kernel
theorem dX12_about_74 : decode cX12_about 74 = .ok (.getfield 383, 3) := by decide +kernel
theorem dX12_about_77 : decode cX12_about 77 = .ok (.ireturn, 1) := by decide +kernel
theorem dX12_about_78 : decode cX12_about 78 = .ok (.aload_n 0, 1) := by decide +kernel
theorem dX12_about_79 : decode cX12_about 79 = .ok (.aload_n 0, 1) := by decide +kernel
theorem dX12_about_80 : decode cX12_about 80 = .ok (.getfield 383, 3) := by decide +kernel
theorem dX12_about_83 : decode cX12_about 83 = .ok (.invokevirtual 429, 3) := by decide +kernel
theorem dX12_about_86 : decode cX12_about 86 = .ok (.ireturn, 1) := by decide +kernel
theorem dX12_about_87 : decode cX12_about 87 = .ok (.aload_n 0, 1) := by decide +kernel
theorem dX12_about_88 : decode cX12_about 88 = .ok (.aload_n 0, 1) := by decide +kernel
theorem dX12_about_89 : decode cX12_about 89 = .ok (.getfield 383, 3) := by decide +kernel
theorem dX12_about_92 : decode cX12_about 92 = .ok (.invokevirtual 420, 3) := by decide +kernel
theorem dX12_about_95 : decode cX12_about 95 = .ok (.ireturn, 1) := by decide +kernel
theorem dX12_about_96 : decode cX12_about 96 = .ok (.aload_n 0, 1) := by decide +kernel
theorem dX12_about_97 : decode cX12_about 97 = .ok (.invokevirtual 469, 3) := by decide +kernel
theorem dX12_about_100 : decode cX12_about 100 = .ok (.ireturn, 1) := by decide +kernel
theorem dX12_about_101 : decode cX12_about 101 = .ok (.aload_n 0, 1) := by decide +kernel
theorem dX12_about_102 : decode cX12_about 102 = .ok (.getfield 69, 3) := by decide +kernel
theorem dX12_about_105 : decode cX12_about 105 = .ok (.ireturn, 1) := by decide +kernel
theorem dX12_about_106 : decode cX12_about 106 = .ok (.aload_n 0, 1) := by decide +kernel
theorem dX12_about_107 : decode cX12_about 107 = .ok (.getfield 383, 3) := by decide +kernel
theorem dX12_about_110 : decode cX12_about 110 = .ok (.aload_n 0, 1) := by decide +kernel
theorem dX12_about_111 : decode cX12_about 111 = .ok (.getfield 389, 3) := by decide +kernel
theorem dX12_about_114 : decode cX12_about 114 = .ok (.isub, 1) := by decide +kernel
theorem dX12_about_115 : decode cX12_about 115 = .ok (.ireturn, 1) := by decide +kernel
theorem dX12_about_116 : decode cX12_about 116 = .ok (.aload_n 0, 1) := by decide +kernel
theorem dX12_about_117 : decode cX12_about 117 = .ok (.getfield 386, 3) := by decide +kernel
theorem dX12_about_120 : decode cX12_about 120 = .ok (.aload_n 0, 1) := by decide +kernel
theorem dX12_about_121 : decode cX12_about 121 = .ok (.getfield 383, 3) := by decide +kernel
theorem dX12_about_124 : decode cX12_about 124 = .ok (.isub, 1) := by decide +kernel
theorem dX12_about_125 : decode cX12_about 125 = .ok (.ireturn, 1) := by decide +kernel
theorem dX12_about_126 : decode cX12_about 126 = .ok (.aload_n 0, 1) := by decide +kernel
theorem dX12_about_127 : decode cX12_about 127 = .ok (.getfield 392, 3) := by decide +kernel
theorem dX12_about_130 : decode cX12_about 130 = .ok (.ireturn, 1) := by decide +kernel
theorem dX12_about_131 : decode cX12_about 131 = .ok (.aload_n 0, 1) := by decide +kernel
theorem dX12_about_132 : decode cX12_about 132 = .ok (.getfield 573, 3) := by decide +kernel
theorem dX12_about_135 : decode cX12_about 135 = .ok (.ireturn, 1) := by decide +kernel
theorem dX12_about_136 : decode cX12_about 136 = .ok (.aload_n 0, 1) := by decide +kernel
theorem dX12_about_137 : decode cX12_about 137 = .ok (.getfield 151, 3) := by decide +kernel
theorem dX12_about_140 : decode cX12_about 140 = .ok (.ireturn, 1) := by decide +kernel
theorem dX12_about_141 : decode cX12_about 141 = .ok (.aload_n 0, 1) := by decide +kernel
theorem dX12_about_142 : decode cX12_about 142 = .ok (.getfield 374, 3) := by decide +kernel
theorem dX12_about_145 : decode cX12_about 145 = .ok (.ireturn, 1) := by decide +kernel
theorem dX12_about_146 : decode cX12_about 146 = .ok (.aload_n 0, 1) := by decide +kernel
theorem dX12_about_147 : decode cX12_about 147 = .ok (.getfield 395, 3) := by decide +kernel
theorem dX12_about_150 : decode cX12_about 150 = .ok (.ireturn, 1) := by decide +kernel
theorem dX12_about_151 : decode cX12_about 151 = .ok (.iconst (-1), 1) := by decide +kernel
theorem dX12_about_152 : decode cX12_about 152 = .ok (.ireturn, 1) := by decide +kernel
theorem dJ11_isValidCodePoint_9a6ad_0 : decode cJ11_isValidCodePoint_9a6ad 0 = .ok (.iload_n 0, 1) := by decide +kernel
theorem dJ11_isValidCodePoint_9a6ad_1 : decode cJ11_isValidCodePoint_9a6ad 1 = .ok (.bipush 16, 2) := by decide +kernel
theorem dJ11_isValidCodePoint_9a6ad_3 : decode cJ11_isValidCodePoint_9a6ad 3 = .ok (.iushr, 1) := by decide +kernel
theorem dJ11_isValidCodePoint_9a6ad_4 : decode cJ11_isValidCodePoint_9a6ad 4 = .ok (.istore_n 1, 1) := by decide +kernel
theorem dJ11_isValidCodePoint_9a6ad_5 : decode cJ11_isValidCodePoint_9a6ad 5 = .ok (.iload_n 1, 1) := by decide +kernel
theorem dJ11_isValidCodePoint_9a6ad_6 : decode cJ11_isValidCodePoint_9a6ad 6 = .ok (.bipush 17, 2) := by decide +kernel
theorem dJ11_isValidCodePoint_9a6ad_8 : decode cJ11_isValidCodePoint_9a6ad 8 = .ok (.if_icmp .ge 7, 3) := by decide +kernel
theorem dJ11_isValidCodePoint_9a6ad_11 : decode cJ11_isValidCodePoint_9a6ad 11 = .ok (.iconst 1, 1) := by decide +kernel
theorem dJ11_isValidCodePoint_9a6ad_12 : decode cJ11_isValidCodePoint_9a6ad 12 = .ok (.goto 4, 3) := by decide +kernel
theorem dJ11_isValidCodePoint_9a6ad_15 : decode cJ11_isValidCodePoint_9a6ad 15 = .ok (.iconst 0, 1) := by decide +kernel
theorem dJ11_isValidCodePoint_9a6ad_16 : decode cJ11_isValidCodePoint_9a6ad 16 = .ok (.ireturn, 1) := by decide +kernel
theorem dJ11_highSurrogate_5068e_0 : decode cJ11_highSurrogate_5068e 0 = .ok (.iload_n 0, 1) := by decide +kernel
theorem dJ11_highSurrogate_5068e_1 : decode cJ11_highSurrogate_5068e 1 = .ok (.bipush 10, 2) := by decide +kernel
theorem dJ11_highSurrogate_5068e_3 : decode cJ11_highSurrogate_5068e 3 = .ok (.iushr, 1) := by decide +kernel
theorem dJ11_highSurrogate_5068e_4 : decode cJ11_highSurrogate_5068e 4 = .ok (.ldc 110, 2) := by decide +kernel
theorem dJ11_highSurrogate_5068e_6 : decode cJ11_highSurrogate_5068e 6 = .ok (.iadd, 1) := by decide +kernel
theorem dJ11_highSurrogate_5068e_7 : decode cJ11_highSurrogate_5068e 7 = .ok (.i2c, 1) := by decide +kernel
theorem dJ11_highSurrogate_5068e_8 : decode cJ11_highSurrogate_5068e 8 = .ok (.ireturn, 1) := by decide +kernel
theorem dJ11_lowSurrogate_5068e_0 : decode cJ11_lowSurrogate_5068e 0 = .ok (.iload_n 0, 1) := by decide +kernel
theorem dJ11_lowSurrogate_5068e_1 : decode cJ11_lowSurrogate_5068e 1 = .ok (.sipush 1023, 3) := by decide +kernel
theorem dJ11_lowSurrogate_5068e_4 : decode cJ11_lowSurrogate_5068e 4 = .ok (.iand, 1) := by decide +kernel
theorem dJ11_lowSurrogate_5068e_5 : decode cJ11_lowSurrogate_5068e 5 = .ok (.ldc 76, 2) := by decide +kernel
theorem dJ11_lowSurrogate_5068e_7 : decode cJ11_lowSurrogate_5068e 7 = .ok (.iadd, 1) := by decide +kernel
theorem dJ11_lowSurrogate_5068e_8 : decode cJ11_lowSurrogate_5068e 8 = .ok (.i2c, 1) := by decide +kernel
theorem dJ11_lowSurrogate_5068e_9 : decode cJ11_lowSurrogate_5068e 9 = .ok (.ireturn, 1) := by decide +kernel
theorem dJ6_compare_7cf53_0 : decode cJ6_compare_7cf53 0 = .ok (.iload_n 0, 1) := by decide +kernel
theorem dJ6_compare_7cf53_1 : decode cJ6_compare_7cf53 1 = .ok (.iload_n 1, 1) := by decide +kernel
theorem dJ6_compare_7cf53_2 : decode cJ6_compare_7cf53 2 = .ok (.if_icmp .ge 7, 3) := by decide +kernel
theorem dJ6_compare_7cf53_5 : decode cJ6_compare_7cf53 5 = .ok (.iconst (-1), 1) := by decide +kernel
theorem dJ6_compare_7cf53_6 : decode cJ6_compare_7cf53 6 = .ok (.goto 13, 3) := by decide +kernel
theorem dJ6_compare_7cf53_9 : decode cJ6_compare_7cf53 9 = .ok (.iload_n 0, 1) := by decide +kernel
theorem dJ6_compare_7cf53_10 : decode cJ6_compare_7cf53 10 = .ok (.iload_n 1, 1) := by decide +kernel
theorem dJ6_compare_7cf53_11 : decode cJ6_compare_7cf53 11 = .ok (.if_icmp .ne 7, 3) := by decide +kernel
theorem dJ6_compare_7cf53_14 : decode cJ6_compare_7cf53 14 = .ok (.iconst 0, 1) := by decide +kernel
theorem dJ6_compare_7cf53_15 : decode cJ6_compare_7cf53 15 = .ok (.goto 4, 3) := by decide +kernel
theorem dJ6_compare_7cf53_18 : decode cJ6_compare_7cf53 18 = .ok (.iconst 1, 1) := by decide +kernel
theorem dJ6_compare_7cf53_19 : decode cJ6_compare_7cf53 19 = .ok (.ireturn, 1) := by decide +kernel
theorem dJ6_bitCount_0f7a4_0 : decode cJ6_bitCount_0f7a4 0 = .ok (.iload_n 0, 1) := by decide +kernel
theorem dJ6_bitCount_0f7a4_1 : decode cJ6_bitCount_0f7a4 1 = .ok (.iload_n 0, 1) := by decide +kernel
theorem dJ6_bitCount_0f7a4_2 : decode cJ6_bitCount_0f7a4 2 = .ok (.iconst 1, 1) := by decide +kernel
theorem dJ6_bitCount_0f7a4_3 : decode cJ6_bitCount_0f7a4 3 = .ok (.iushr, 1) := by decide +kernel
theorem dJ6_bitCount_0f7a4_4 : decode cJ6_bitCount_0f7a4 4 = .ok (.ldc_w 265, 3) := by decide +kernel
theorem dJ6_bitCount_0f7a4_7 : decode cJ6_bitCount_0f7a4 7 = .ok (.iand, 1) := by decide +kernel
theorem dJ6_bitCount_0f7a4_8 : decode cJ6_bitCount_0f7a4 8 = .ok (.isub, 1) := by decide +kernel
theorem dJ6_bitCount_0f7a4_9 : decode cJ6_bitCount_0f7a4 9 = .ok (.istore_n 0, 1) := by decide +kernel
theorem dJ6_bitCount_0f7a4_10 : decode cJ6_bitCount_0f7a4 10 = .ok (.iload_n 0, 1) := by decide +kernel
theorem dJ6_bitCount_0f7a4_11 : decode cJ6_bitCount_0f7a4 11 = .ok (.ldc_w 266, 3) := by decide +kernel
theorem dJ6_bitCount_0f7a4_14 : decode cJ6_bitCount_0f7a4 14 = .ok (.iand, 1) := by decide +kernel
theorem dJ6_bitCount_0f7a4_15 : decode cJ6_bitCount_0f7a4 15 = .ok (.iload_n 0, 1) := by decide +kernel
theorem dJ6_bitCount_0f7a4_16 : decode cJ6_bitCount_0f7a4 16 = .ok (.iconst 2, 1) := by decide +kernel
theorem dJ6_bitCount_0f7a4_17 : decode cJ6_bitCount_0f7a4 17 = .ok (.iushr, 1) := by decide +kernel
theorem dJ6_bitCount_0f7a4_18 : decode cJ6_bitCount_0f7a4 18 = .ok (.ldc_w 266, 3) := by decide +kernel
theorem dJ6_bitCount_0f7a4_21 : decode cJ6_bitCount_0f7a4 21 = .ok (.iand, 1) := by decide +kernel
theorem dJ6_bitCount_0f7a4_22 : decode cJ6_bitCount_0f7a4 22 = .ok (.iadd, 1) := by decide +kernel
theorem dJ6_bitCount_0f7a4_23 : decode cJ6_bitCount_0f7a4 23 = .ok (.istore_n 0, 1) := by decide +kernel
theorem dJ6_bitCount_0f7a4_24 : decode cJ6_bitCount_0f7a4 24 = .ok (.iload_n 0, 1) := by decide +kernel
theorem dJ6_bitCount_0f7a4_25 : decode cJ6_bitCount_0f7a4 25 = .ok (.iload_n 0, 1) := by decide +kernel
theorem dJ6_bitCount_0f7a4_26 : decode cJ6_bitCount_0f7a4 26 = .ok (.iconst 4, 1) := by decide +kernel
theorem dJ6_bitCount_0f7a4_27 : decode cJ6_bitCount_0f7a4 27 = .ok (.iushr, 1) := by decide +kernel
theorem dJ6_bitCount_0f7a4_28 : decode cJ6_bitCount_0f7a4 28 = .ok (.iadd, 1) := by decide +kernel
theorem dJ6_bitCount_0f7a4_29 : decode cJ6_bitCount_0f7a4 29 = .ok (.ldc_w 267, 3) := by decide +kernel
theorem dJ6_bitCount_0f7a4_32 : decode cJ6_bitCount_0f7a4 32 = .ok (.iand, 1) := by decide +kernel
theorem dJ6_bitCount_0f7a4_33 : decode cJ6_bitCount_0f7a4 33 = .ok (.istore_n 0, 1) := by decide +kernel
theorem dJ6_bitCount_0f7a4_34 : decode cJ6_bitCount_0f7a4 34 = .ok (.iload_n 0, 1) := by decide +kernel
theorem dJ6_bitCount_0f7a4_35 : decode cJ6_bitCount_0f7a4 35 = .ok (.iload_n 0, 1) := by decide +kernel
theorem dJ6_bitCount_0f7a4_36 : decode cJ6_bitCount_0f7a4 36 = .ok (.bipush 8, 2) := by decide +kernel
theorem dJ6_bitCount_0f7a4_38 : decode cJ6_bitCount_0f7a4 38 = .ok (.iushr, 1) := by decide +kernel
theorem dJ6_bitCount_0f7a4_39 : decode cJ6_bitCount_0f7a4 39 = .ok (.iadd, 1) := by decide +kernel
theorem dJ6_bitCount_0f7a4_40 : decode cJ6_bitCount_0f7a4 40 = .ok (.istore_n 0, 1) := by decide +kernel
theorem dJ6_bitCount_0f7a4_41 : decode cJ6_bitCount_0f7a4 41 = .ok (.iload_n 0, 1) := by decide +kernel
theorem dJ6_bitCount_0f7a4_42 : decode cJ6_bitCount_0f7a4 42 = .ok (.iload_n 0, 1) := by decide +kernel
theorem dJ6_bitCount_0f7a4_43 : decode cJ6_bitCount_0f7a4 43 = .ok (.bipush 16, 2) := by decide +kernel
theorem dJ6_bitCount_0f7a4_45 : decode cJ6_bitCount_0f7a4 45 = .ok (.iushr, 1) := by decide +kernel
theorem dJ6_bitCount_0f7a4_46 : decode cJ6_bitCount_0f7a4 46 = .ok (.iadd, 1) := by decide +kernel
theorem dJ6_bitCount_0f7a4_47 : decode cJ6_bitCount_0f7a4 47 = .ok (.istore_n 0, 1) := by decide +kernel
theorem dJ6_bitCount_0f7a4_48 : decode cJ6_bitCount_0f7a4 48 = .ok (.iload_n 0, 1) := by decide +kernel
theorem dJ6_bitCount_0f7a4_49 : decode cJ6_bitCount_0f7a4 49 = .ok (.bipush 63, 2) := by decide +kernel
theorem dJ6_bitCount_0f7a4_51 : decode cJ6_bitCount_0f7a4 51 = .ok (.iand, 1) := by decide +kernel
theorem dJ6_bitCount_0f7a4_52 : decode cJ6_bitCount_0f7a4 52 = .ok (.ireturn, 1) := by decide +kernel
theorem dJ9_floorDiv_7cf53_0 : decode cJ9_floorDiv_7cf53 0 = .ok (.iload_n 0, 1) := by decide +kernel
theorem dJ9_floorDiv_7cf53_1 : decode cJ9_floorDiv_7cf53 1 = .ok (.iload_n 1, 1) := by decide +kernel
theorem dJ9_floorDiv_7cf53_2 : decode cJ9_floorDiv_7cf53 2 = .ok (.idiv, 1) := by decide +kernel
theorem dJ9_floorDiv_7cf53_3 : decode cJ9_floorDiv_7cf53 3 = .ok (.istore_n 2, 1) := by decide +kernel
theorem dJ9_floorDiv_7cf53_4 : decode cJ9_floorDiv_7cf53 4 = .ok (.iload_n 0, 1) := by decide +kernel
theorem dJ9_floorDiv_7cf53_5 : decode cJ9_floorDiv_7cf53 5 = .ok (.iload_n 1, 1) := by decide +kernel
theorem dJ9_floorDiv_7cf53_6 : decode cJ9_floorDiv_7cf53 6 = .ok (.ixor, 1) := by decide +kernel
theorem dJ9_floorDiv_7cf53_7 : decode cJ9_floorDiv_7cf53 7 = .ok (.ifCond .ge 14, 3) := by decide +kernel
theorem dJ9_floorDiv_7cf53_10 : decode cJ9_floorDiv_7cf53 10 = .ok (.iload_n 2, 1) := by decide +kernel
theorem dJ9_floorDiv_7cf53_11 : decode cJ9_floorDiv_7cf53 11 = .ok (.iload_n 1, 1) := by decide +kernel
theorem dJ9_floorDiv_7cf53_12 : decode cJ9_floorDiv_7cf53 12 = .ok (.imul, 1) := by decide +kernel
theorem dJ9_floorDiv_7cf53_13 : decode cJ9_floorDiv_7cf53 13 = .ok (.iload_n 0, 1) := by decide +kernel
theorem dJ9_floorDiv_7cf53_14 : decode cJ9_floorDiv_7cf53 14 = .ok (.if_icmp .eq 7, 3) := by decide +kernel
theorem dJ9_floorDiv_7cf53_17 : decode cJ9_floorDiv_7cf53 17 = .ok (.iload_n 2, 1) := by decide +kernel
theorem dJ9_floorDiv_7cf53_18 : decode cJ9_floorDiv_7cf53 18 = .ok (.iconst 1, 1) := by decide +kernel
theorem dJ9_floorDiv_7cf53_19 : decode cJ9_floorDiv_7cf53 19 = .ok (.isub, 1) := by decide +kernel
theorem dJ9_floorDiv_7cf53_20 : decode cJ9_floorDiv_7cf53 20 = .ok (.ireturn, 1) := by decide +kernel
theorem dJ9_floorDiv_7cf53_21 : decode cJ9_floorDiv_7cf53 21 = .ok (.iload_n 2, 1) := by decide +kernel
theorem dJ9_floorDiv_7cf53_22 : decode cJ9_floorDiv_7cf53 22 = .ok (.ireturn, 1) := by decide +kernel
theorem dJ9_abs_0f7a4_0 : decode cJ9_abs_0f7a4 0 = .ok (.iload_n 0, 1) := by decide +kernel
theorem dJ9_abs_0f7a4_1 : decode cJ9_abs_0f7a4 1 = .ok (.ifCond .ge 8, 3) := by decide +kernel
theorem dJ9_abs_0f7a4_4 : decode cJ9_abs_0f7a4 4 = .ok (.iload_n 0, 1) := by decide +kernel
theorem dJ9_abs_0f7a4_5 : decode cJ9_abs_0f7a4 5 = .ok (.ineg, 1) := by decide +kernel
theorem dJ9_abs_0f7a4_6 : decode cJ9_abs_0f7a4 6 = .ok (.goto 4, 3) := by decide +kernel
theorem dJ9_abs_0f7a4_9 : decode cJ9_abs_0f7a4 9 = .ok (.iload_n 0, 1) := by decide +kernel
theorem dJ9_abs_0f7a4_10 : decode cJ9_abs_0f7a4 10 = .ok (.ireturn, 1) := by decide +kernel
theorem dJ9_max_7cf53_0 : decode cJ9_max_7cf53 0 = .ok (.iload_n 0, 1) := by decide +kernel
theorem dJ9_max_7cf53_1 : decode cJ9_max_7cf53 1 = .ok (.iload_n 1, 1) := by decide +kernel
theorem dJ9_max_7cf53_2 : decode cJ9_max_7cf53 2 = .ok (.if_icmp .lt 7, 3) := by decide +kernel
theorem dJ9_max_7cf53_5 : decode cJ9_max_7cf53 5 = .ok (.iload_n 0, 1) := by decide +kernel
theorem dJ9_max_7cf53_6 : decode cJ9_max_7cf53 6 = .ok (.goto 4, 3) := by decide +kernel
theorem dJ9_max_7cf53_9 : decode cJ9_max_7cf53 9 = .ok (.iload_n 1, 1) := by decide +kernel
theorem dJ9_max_7cf53_10 : decode cJ9_max_7cf53 10 = .ok (.ireturn, 1) := by decide +kernel
theorem dJ9_min_7cf53_0 : decode cJ9_min_7cf53 0 = .ok (.iload_n 0, 1) := by decide +kernel
theorem dJ9_min_7cf53_1 : decode cJ9_min_7cf53 1 = .ok (.iload_n 1, 1) := by decide +kernel
theorem dJ9_min_7cf53_2 : decode cJ9_min_7cf53 2 = .ok (.if_icmp .gt 7, 3) := by decide +kernel
theorem dJ9_min_7cf53_5 : decode cJ9_min_7cf53 5 = .ok (.iload_n 0, 1) := by decide +kernel
theorem dJ9_min_7cf53_6 : decode cJ9_min_7cf53 6 = .ok (.goto 4, 3) := by decide +kernel
theorem dJ9_min_7cf53_9 : decode cJ9_min_7cf53 9 = .ok (.iload_n 1, 1) := by decide +kernel
theorem dJ9_min_7cf53_10 : decode cJ9_min_7cf53 10 = .ok (.ireturn, 1) := by decide +kernel
theorem dJ0_length_8abf5_0 : decode cJ0_length_8abf5 0 = .ok (.aload_n 0, 1) := by decide +kernel
theorem dJ0_length_8abf5_1 : decode cJ0_length_8abf5 1 = .ok (.getfield 9, 3) := by decide +kernel
theorem dJ0_length_8abf5_4 : decode cJ0_length_8abf5 4 = .ok (.arraylength, 1) := by decide +kernel
theorem dJ0_length_8abf5_5 : decode cJ0_length_8abf5 5 = .ok (.aload_n 0, 1) := by decide +kernel
theorem dJ0_length_8abf5_6 : decode cJ0_length_8abf5 6 = .ok (.invokevirtual 335, 3) := by decide +kernel
theorem dJ0_length_8abf5_9 : decode cJ0_length_8abf5 9 = .ok (.ishr, 1) := by decide +kernel
theorem dJ0_length_8abf5_10 : decode cJ0_length_8abf5 10 = .ok (.ireturn, 1) := by decide +kernel
theorem dJ0_charAt_5068e_0 : decode cJ0_charAt_5068e 0 = .ok (.aload_n 0, 1) := by decide +kernel
theorem dJ0_charAt_5068e_1 : decode cJ0_charAt_5068e 1 = .ok (.invokevirtual 492, 3) := by decide +kernel
theorem dJ0_charAt_5068e_4 : decode cJ0_charAt_5068e 4 = .ok (.ifCond .eq 12, 3) := by decide +kernel
theorem dJ0_charAt_5068e_7 : decode cJ0_charAt_5068e 7 = .ok (.aload_n 0, 1) := by decide +kernel
theorem dJ0_charAt_5068e_8 : decode cJ0_charAt_5068e 8 = .ok (.getfield 9, 3) := by decide +kernel
theorem dJ0_charAt_5068e_11 : decode cJ0_charAt_5068e 11 = .ok (.iload_n 1, 1) := by decide +kernel
theorem dJ0_charAt_5068e_12 : decode cJ0_charAt_5068e 12 = .ok (.invokestatic 495, 3) := by decide +kernel
theorem dJ0_charAt_5068e_15 : decode cJ0_charAt_5068e 15 = .ok (.ireturn, 1) := by decide +kernel
theorem dJ0_charAt_5068e_16 : decode cJ0_charAt_5068e 16 = .ok (.aload_n 0, 1) := by decide +kernel
theorem dJ0_charAt_5068e_17 : decode cJ0_charAt_5068e 17 = .ok (.getfield 9, 3) := by decide +kernel
theorem dJ0_charAt_5068e_20 : decode cJ0_charAt_5068e 20 = .ok (.iload_n 1, 1) := by decide +kernel
theorem dJ0_charAt_5068e_21 : decode cJ0_charAt_5068e 21 = .ok (.invokestatic 498, 3) := by decide +kernel
theorem dJ0_charAt_5068e_24 : decode cJ0_charAt_5068e 24 = .ok (.ireturn, 1) := by decide +kernel
theorem dJ0_indexOf_0f7a4_0 : decode cJ0_indexOf_0f7a4 0 = .ok (.aload_n 0, 1) := by decide +kernel
theorem dJ0_indexOf_0f7a4_1 : decode cJ0_indexOf_0f7a4 1 = .ok (.iload_n 1, 1) := by decide +kernel
theorem dJ0_indexOf_0f7a4_2 : decode cJ0_indexOf_0f7a4 2 = .ok (.iconst 0, 1) := by decide +kernel
theorem dJ0_indexOf_0f7a4_3 : decode cJ0_indexOf_0f7a4 3 = .ok (.invokevirtual 633, 3) := by decide +kernel
theorem dJ0_indexOf_0f7a4_6 : decode cJ0_indexOf_0f7a4 6 = .ok (.ireturn, 1) := by decide +kernel
theorem dJ0_indexOf_7cf53_0 : decode cJ0_indexOf_7cf53 0 = .ok (.aload_n 0, 1) := by decide +kernel
theorem dJ0_indexOf_7cf53_1 : decode cJ0_indexOf_7cf53 1 = .ok (.invokevirtual 492, 3) := by decide +kernel
theorem dJ0_indexOf_7cf53_4 : decode cJ0_indexOf_7cf53 4 = .ok (.ifCond .eq 19, 3) := by decide +kernel
theorem dJ0_indexOf_7cf53_7 : decode cJ0_indexOf_7cf53 7 = .ok (.aload_n 0, 1) := by decide +kernel
theorem dJ0_indexOf_7cf53_8 : decode cJ0_indexOf_7cf53 8 = .ok (.getfield 9, 3) := by decide +kernel
theorem dJ0_indexOf_7cf53_11 : decode cJ0_indexOf_7cf53 11 = .ok (.iload_n 1, 1) := by decide +kernel
theorem dJ0_indexOf_7cf53_12 : decode cJ0_indexOf_7cf53 12 = .ok (.iload_n 2, 1) := by decide +kernel
theorem dJ0_indexOf_7cf53_13 : decode cJ0_indexOf_7cf53 13 = .ok (.aload_n 0, 1) := by decide +kernel
theorem dJ0_indexOf_7cf53_14 : decode cJ0_indexOf_7cf53 14 = .ok (.invokevirtual 505, 3) := by decide +kernel
theorem dJ0_indexOf_7cf53_17 : decode cJ0_indexOf_7cf53 17 = .ok (.invokestatic 637, 3) := by decide +kernel
theorem dJ0_indexOf_7cf53_20 : decode cJ0_indexOf_7cf53 20 = .ok (.goto 16, 3) := by decide +kernel
theorem dJ0_indexOf_7cf53_23 : decode cJ0_indexOf_7cf53 23 = .ok (.aload_n 0, 1) := by decide +kernel
theorem dJ0_indexOf_7cf53_24 : decode cJ0_indexOf_7cf53 24 = .ok (.getfield 9, 3) := by decide +kernel
theorem dJ0_indexOf_7cf53_27 : decode cJ0_indexOf_7cf53 27 = .ok (.iload_n 1, 1) := by decide +kernel
theorem dJ0_indexOf_7cf53_28 : decode cJ0_indexOf_7cf53 28 = .ok (.iload_n 2, 1) := by decide +kernel
theorem dJ0_indexOf_7cf53_29 : decode cJ0_indexOf_7cf53 29 = .ok (.aload_n 0, 1) := by decide +kernel
theorem dJ0_indexOf_7cf53_30 : decode cJ0_indexOf_7cf53 30 = .ok (.invokevirtual 505, 3) := by decide +kernel
theorem dJ0_indexOf_7cf53_33 : decode cJ0_indexOf_7cf53 33 = .ok (.invokestatic 640, 3) := by decide +kernel
theorem dJ0_indexOf_7cf53_36 : decode cJ0_indexOf_7cf53 36 = .ok (.ireturn, 1) := by decide +kernel
theorem dJ0_coder_7d493_0 : decode cJ0_coder_7d493 0 = .ok (.getstatic 38, 3) := by decide +kernel
theorem dJ0_coder_7d493_3 : decode cJ0_coder_7d493 3 = .ok (.ifCond .eq 10, 3) := by decide +kernel
theorem dJ0_coder_7d493_6 : decode cJ0_coder_7d493 6 = .ok (.aload_n 0, 1) := by decide +kernel
theorem dJ0_coder_7d493_7 : decode cJ0_coder_7d493 7 = .ok (.getfield 15, 3) := by decide +kernel
theorem dJ0_coder_7d493_10 : decode cJ0_coder_7d493 10 = .ok (.goto 4, 3) := by decide +kernel
theorem dJ0_coder_7d493_13 : decode cJ0_coder_7d493 13 = .ok (.iconst 1, 1) := by decide +kernel
theorem dJ0_coder_7d493_14 : decode cJ0_coder_7d493 14 = .ok (.ireturn, 1) := by decide +kernel
theorem dJ0_isLatin1_aae02_0 : decode cJ0_isLatin1_aae02 0 = .ok (.getstatic 38, 3) := by decide +kernel
theorem dJ0_isLatin1_aae02_3 : decode cJ0_isLatin1_aae02 3 = .ok (.ifCond .eq 14, 3) := by decide +kernel
theorem dJ0_isLatin1_aae02_6 : decode cJ0_isLatin1_aae02 6 = .ok (.aload_n 0, 1) := by decide +kernel
theorem dJ0_isLatin1_aae02_7 : decode cJ0_isLatin1_aae02 7 = .ok (.getfield 15, 3) := by decide +kernel
theorem dJ0_isLatin1_aae02_10 : decode cJ0_isLatin1_aae02 10 = .ok (.ifCond .ne 7, 3) := by decide +kernel
theorem dJ0_isLatin1_aae02_13 : decode cJ0_isLatin1_aae02 13 = .ok (.iconst 1, 1) := by decide +kernel
theorem dJ0_isLatin1_aae02_14 : decode cJ0_isLatin1_aae02 14 = .ok (.goto 4, 3) := by decide +kernel
theorem dJ0_isLatin1_aae02_17 : decode cJ0_isLatin1_aae02 17 = .ok (.iconst 0, 1) := by decide +kernel
theorem dJ0_isLatin1_aae02_18 : decode cJ0_isLatin1_aae02 18 = .ok (.ireturn, 1) := by decide +kernel
theorem dJ0_checkIndex_df160_0 : decode cJ0_checkIndex_df160 0 = .ok (.iload_n 0, 1) := by decide +kernel
theorem dJ0_checkIndex_df160_1 : decode cJ0_checkIndex_df160 1 = .ok (.iload_n 1, 1) := by decide +kernel
theorem dJ0_checkIndex_df160_2 : decode cJ0_checkIndex_df160 2 = .ok (.getstatic 1053, 3) := by decide +kernel
theorem dJ0_checkIndex_df160_5 : decode cJ0_checkIndex_df160 5 = .ok (.invokestatic 1059, 3) := by decide +kernel
theorem dJ0_checkIndex_df160_8 : decode cJ0_checkIndex_df160 8 = .ok (.pop, 1) := by decide +kernel
theorem dJ0_checkIndex_df160_9 : decode cJ0_checkIndex_df160 9 = .ok (.return_, 1) := by decide +kernel
theorem dJ0_checkBoundsBeginEnd_23922_0 : decode cJ0_checkBoundsBeginEnd_23922 0 = .ok (.iload_n 0, 1) := by decide +kernel
theorem dJ0_checkBoundsBeginEnd_23922_1 : decode cJ0_checkBoundsBeginEnd_23922 1 = .ok (.iload_n 1, 1) := by decide +kernel
theorem dJ0_checkBoundsBeginEnd_23922_2 : decode cJ0_checkBoundsBeginEnd_23922 2 = .ok (.iload_n 2, 1) := by decide +kernel
theorem dJ0_checkBoundsBeginEnd_23922_3 : decode cJ0_checkBoundsBeginEnd_23922 3 = .ok (.getstatic 1053, 3) := by decide +kernel
theorem dJ0_checkBoundsBeginEnd_23922_6 : decode cJ0_checkBoundsBeginEnd_23922 6 = .ok (.invokestatic 1062, 3) := by decide +kernel
theorem dJ0_checkBoundsBeginEnd_23922_9 : decode cJ0_checkBoundsBeginEnd_23922 9 = .ok (.pop, 1) := by decide +kernel
theorem dJ0_checkBoundsBeginEnd_23922_10 : decode cJ0_checkBoundsBeginEnd_23922 10 = .ok (.return_, 1) := by decide +kernel
theorem dJ1_charAt_3b067_0 : decode cJ1_charAt_3b067 0 = .ok (.iload_n 1, 1) := by decide +kernel
theorem dJ1_charAt_3b067_1 : decode cJ1_charAt_3b067 1 = .ok (.aload_n 0, 1) := by decide +kernel
theorem dJ1_charAt_3b067_2 : decode cJ1_charAt_3b067 2 = .ok (.arraylength, 1) := by decide +kernel
theorem dJ1_charAt_3b067_3 : decode cJ1_charAt_3b067 3 = .ok (.invokestatic 9, 3) := by decide +kernel
theorem dJ1_charAt_3b067_6 : decode cJ1_charAt_3b067 6 = .ok (.aload_n 0, 1) := by decide +kernel
theorem dJ1_charAt_3b067_7 : decode cJ1_charAt_3b067 7 = .ok (.iload_n 1, 1) := by decide +kernel
theorem dJ1_charAt_3b067_8 : decode cJ1_charAt_3b067 8 = .ok (.baload, 1) := by decide +kernel
theorem dJ1_charAt_3b067_9 : decode cJ1_charAt_3b067 9 = .ok (.sipush 255, 3) := by decide +kernel
theorem dJ1_charAt_3b067_12 : decode cJ1_charAt_3b067 12 = .ok (.iand, 1) := by decide +kernel
theorem dJ1_charAt_3b067_13 : decode cJ1_charAt_3b067 13 = .ok (.i2c, 1) := by decide +kernel
theorem dJ1_charAt_3b067_14 : decode cJ1_charAt_3b067 14 = .ok (.ireturn, 1) := by decide +kernel
theorem dJ1_canEncode_9a6ad_0 : decode cJ1_canEncode_9a6ad 0 = .ok (.iload_n 0, 1) := by decide +kernel
theorem dJ1_canEncode_9a6ad_1 : decode cJ1_canEncode_9a6ad 1 = .ok (.ifCond .lt 14, 3) := by decide +kernel
theorem dJ1_canEncode_9a6ad_4 : decode cJ1_canEncode_9a6ad 4 = .ok (.iload_n 0, 1) := by decide +kernel
theorem dJ1_canEncode_9a6ad_5 : decode cJ1_canEncode_9a6ad 5 = .ok (.sipush 255, 3) := by decide +kernel
theorem dJ1_canEncode_9a6ad_8 : decode cJ1_canEncode_9a6ad 8 = .ok (.if_icmp .gt 7, 3) := by decide +kernel
theorem dJ1_canEncode_9a6ad_11 : decode cJ1_canEncode_9a6ad 11 = .ok (.iconst 1, 1) := by decide +kernel
theorem dJ1_canEncode_9a6ad_12 : decode cJ1_canEncode_9a6ad 12 = .ok (.goto 4, 3) := by decide +kernel
theorem dJ1_canEncode_9a6ad_15 : decode cJ1_canEncode_9a6ad 15 = .ok (.iconst 0, 1) := by decide +kernel
theorem dJ1_canEncode_9a6ad_16 : decode cJ1_canEncode_9a6ad 16 = .ok (.ireturn, 1) := by decide +kernel
theorem dJ1_indexOf_4cfef_0 : decode cJ1_indexOf_4cfef 0 = .ok (.iload_n 1, 1) := by decide +kernel
theorem dJ1_indexOf_4cfef_1 : decode cJ1_indexOf_4cfef 1 = .ok (.invokestatic 88, 3) := by decide +kernel
theorem dJ1_indexOf_4cfef_4 : decode cJ1_indexOf_4cfef 4 = .ok (.ifCond .ne 5, 3) := by decide +kernel
theorem dJ1_indexOf_4cfef_7 : decode cJ1_indexOf_4cfef 7 = .ok (.iconst (-1), 1) := by decide +kernel
theorem dJ1_indexOf_4cfef_8 : decode cJ1_indexOf_4cfef 8 = .ok (.ireturn, 1) := by decide +kernel
theorem dJ1_indexOf_4cfef_9 : decode cJ1_indexOf_4cfef 9 = .ok (.iload_n 2, 1) := by decide +kernel
theorem dJ1_indexOf_4cfef_10 : decode cJ1_indexOf_4cfef 10 = .ok (.iconst 0, 1) := by decide +kernel
theorem dJ1_indexOf_4cfef_11 : decode cJ1_indexOf_4cfef 11 = .ok (.invokestatic 92, 3) := by decide +kernel
theorem dJ1_indexOf_4cfef_14 : decode cJ1_indexOf_4cfef 14 = .ok (.istore_n 2, 1) := by decide +kernel
theorem dJ1_indexOf_4cfef_15 : decode cJ1_indexOf_4cfef 15 = .ok (.iload_n 3, 1) := by decide +kernel
theorem dJ1_indexOf_4cfef_16 : decode cJ1_indexOf_4cfef 16 = .ok (.aload_n 0, 1) := by decide +kernel
theorem dJ1_indexOf_4cfef_17 : decode cJ1_indexOf_4cfef 17 = .ok (.arraylength, 1) := by decide +kernel
theorem dJ1_indexOf_4cfef_18 : decode cJ1_indexOf_4cfef 18 = .ok (.invokestatic 38, 3) := by decide +kernel
theorem dJ1_indexOf_4cfef_21 : decode cJ1_indexOf_4cfef 21 = .ok (.istore_n 3, 1) := by decide +kernel
theorem dJ1_indexOf_4cfef_22 : decode cJ1_indexOf_4cfef 22 = .ok (.iload_n 2, 1) := by decide +kernel
theorem dJ1_indexOf_4cfef_23 : decode cJ1_indexOf_4cfef 23 = .ok (.iload_n 3, 1) := by decide +kernel
theorem dJ1_indexOf_4cfef_24 : decode cJ1_indexOf_4cfef 24 = .ok (.if_icmp .lt 5, 3) := by decide +kernel
theorem dJ1_indexOf_4cfef_27 : decode cJ1_indexOf_4cfef 27 = .ok (.iconst (-1), 1) := by decide +kernel
theorem dJ1_indexOf_4cfef_28 : decode cJ1_indexOf_4cfef 28 = .ok (.ireturn, 1) := by decide +kernel
theorem dJ1_indexOf_4cfef_29 : decode cJ1_indexOf_4cfef 29 = .ok (.aload_n 0, 1) := by decide +kernel
theorem dJ1_indexOf_4cfef_30 : decode cJ1_indexOf_4cfef 30 = .ok (.iload_n 1, 1) := by decide +kernel
theorem dJ1_indexOf_4cfef_31 : decode cJ1_indexOf_4cfef 31 = .ok (.iload_n 2, 1) := by decide +kernel
theorem dJ1_indexOf_4cfef_32 : decode cJ1_indexOf_4cfef 32 = .ok (.iload_n 3, 1) := by decide +kernel
theorem dJ1_indexOf_4cfef_33 : decode cJ1_indexOf_4cfef 33 = .ok (.invokestatic 95, 3) := by decide +kernel
theorem dJ1_indexOf_4cfef_36 : decode cJ1_indexOf_4cfef 36 = .ok (.ireturn, 1) := by decide +kernel
theorem dJ1_indexOfChar_4cfef_0 : decode cJ1_indexOfChar_4cfef 0 = .ok (.iload_n 1, 1) := by decide +kernel
theorem dJ1_indexOfChar_4cfef_1 : decode cJ1_indexOfChar_4cfef 1 = .ok (.i2b, 1) := by decide +kernel
theorem dJ1_indexOfChar_4cfef_2 : decode cJ1_indexOfChar_4cfef 2 = .ok (.istore 4, 2) := by decide +kernel
theorem dJ1_indexOfChar_4cfef_4 : decode cJ1_indexOfChar_4cfef 4 = .ok (.iload_n 2, 1) := by decide +kernel
theorem dJ1_indexOfChar_4cfef_5 : decode cJ1_indexOfChar_4cfef 5 = .ok (.istore 5, 2) := by decide +kernel
theorem dJ1_indexOfChar_4cfef_7 : decode cJ1_indexOfChar_4cfef 7 = .ok (.iload 5, 2) := by decide +kernel
theorem dJ1_indexOfChar_4cfef_9 : decode cJ1_indexOfChar_4cfef 9 = .ok (.iload_n 3, 1) := by decide +kernel
theorem dJ1_indexOfChar_4cfef_10 : decode cJ1_indexOfChar_4cfef 10 = .ok (.if_icmp .ge 21, 3) := by decide +kernel
theorem dJ1_indexOfChar_4cfef_13 : decode cJ1_indexOfChar_4cfef 13 = .ok (.aload_n 0, 1) := by decide +kernel
theorem dJ1_indexOfChar_4cfef_14 : decode cJ1_indexOfChar_4cfef 14 = .ok (.iload 5, 2) := by decide +kernel
theorem dJ1_indexOfChar_4cfef_16 : decode cJ1_indexOfChar_4cfef 16 = .ok (.baload, 1) := by decide +kernel
theorem dJ1_indexOfChar_4cfef_17 : decode cJ1_indexOfChar_4cfef 17 = .ok (.iload 4, 2) := by decide +kernel
theorem dJ1_indexOfChar_4cfef_19 : decode cJ1_indexOfChar_4cfef 19 = .ok (.if_icmp .ne 6, 3) := by decide +kernel
theorem dJ1_indexOfChar_4cfef_22 : decode cJ1_indexOfChar_4cfef 22 = .ok (.iload 5, 2) := by decide +kernel
theorem dJ1_indexOfChar_4cfef_24 : decode cJ1_indexOfChar_4cfef 24 = .ok (.ireturn, 1) := by decide +kernel
theorem dJ1_indexOfChar_4cfef_25 : decode cJ1_indexOfChar_4cfef 25 = .ok (.iinc 5 1, 3) := by decide +kernel
theorem dJ1_indexOfChar_4cfef_28 : decode cJ1_indexOfChar_4cfef 28 = .ok (.goto (-21), 3) := by decide +kernel
theorem dJ1_indexOfChar_4cfef_31 : decode cJ1_indexOfChar_4cfef 31 = .ok (.iconst (-1), 1) := by decide +kernel
theorem dJ1_indexOfChar_4cfef_32 : decode cJ1_indexOfChar_4cfef 32 = .ok (.ireturn, 1) := by decide +kernel
theorem dJ2_getChar_3b067_0 : decode cJ2_getChar_3b067 0 = .ok (.getstatic 44, 3) := by decide +kernel
theorem dJ2_getChar_3b067_3 : decode cJ2_getChar_3b067 3 = .ok (.ifCond .ne 25, 3) := by decide +kernel
theorem dJ2_getChar_3b067_6 : decode cJ2_getChar_3b067 6 = .ok (.iload_n 1, 1) := by decide +kernel
theorem dJ2_getChar_3b067_7 : decode cJ2_getChar_3b067 7 = .ok (.ifCond .lt 11, 3) := by decide +kernel
theorem dJ2_getChar_3b067_10 : decode cJ2_getChar_3b067 10 = .ok (.iload_n 1, 1) := by decide +kernel
theorem dJ2_getChar_3b067_11 : decode cJ2_getChar_3b067 11 = .ok (.aload_n 0, 1) := by decide +kernel
theorem dJ2_getChar_3b067_12 : decode cJ2_getChar_3b067 12 = .ok (.invokestatic 48, 3) := by decide +kernel
theorem dJ2_getChar_3b067_15 : decode cJ2_getChar_3b067 15 = .ok (.if_icmp .lt 13, 3) := by decide +kernel
theorem dJ2_getChar_3b067_18 : decode cJ2_getChar_3b067 18 = .ok (.new 52, 3) := by decide +kernel
theorem dJ2_getChar_3b067_21 : decode cJ2_getChar_3b067 21 = .ok (.dup, 1) := by decide +kernel
theorem dJ2_getChar_3b067_22 : decode cJ2_getChar_3b067 22 = .ok (.ldc 54, 2) := by decide +kernel
theorem dJ2_getChar_3b067_24 : decode cJ2_getChar_3b067 24 = .ok (.invokespecial 56, 3) := by decide +kernel
theorem dJ2_getChar_3b067_27 : decode cJ2_getChar_3b067 27 = .ok (.athrow, 1) := by decide +kernel
theorem dJ2_getChar_3b067_28 : decode cJ2_getChar_3b067 28 = .ok (.iload_n 1, 1) := by decide +kernel
theorem dJ2_getChar_3b067_29 : decode cJ2_getChar_3b067 29 = .ok (.iconst 1, 1) := by decide +kernel
theorem dJ2_getChar_3b067_30 : decode cJ2_getChar_3b067 30 = .ok (.ishl, 1) := by decide +kernel
theorem dJ2_getChar_3b067_31 : decode cJ2_getChar_3b067 31 = .ok (.istore_n 1, 1) := by decide +kernel
theorem dJ2_getChar_3b067_32 : decode cJ2_getChar_3b067 32 = .ok (.aload_n 0, 1) := by decide +kernel
theorem dJ2_getChar_3b067_33 : decode cJ2_getChar_3b067 33 = .ok (.iload_n 1, 1) := by decide +kernel
theorem dJ2_getChar_3b067_34 : decode cJ2_getChar_3b067 34 = .ok (.iinc 1 1, 3) := by decide +kernel
theorem dJ2_getChar_3b067_37 : decode cJ2_getChar_3b067 37 = .ok (.baload, 1) := by decide +kernel
theorem dJ2_getChar_3b067_38 : decode cJ2_getChar_3b067 38 = .ok (.sipush 255, 3) := by decide +kernel
theorem dJ2_getChar_3b067_41 : decode cJ2_getChar_3b067 41 = .ok (.iand, 1) := by decide +kernel
theorem dJ2_getChar_3b067_42 : decode cJ2_getChar_3b067 42 = .ok (.getstatic 59, 3) := by decide +kernel
theorem dJ2_getChar_3b067_45 : decode cJ2_getChar_3b067 45 = .ok (.ishl, 1) := by decide +kernel
theorem dJ2_getChar_3b067_46 : decode cJ2_getChar_3b067 46 = .ok (.aload_n 0, 1) := by decide +kernel
theorem dJ2_getChar_3b067_47 : decode cJ2_getChar_3b067 47 = .ok (.iload_n 1, 1) := by decide +kernel
theorem dJ2_getChar_3b067_48 : decode cJ2_getChar_3b067 48 = .ok (.baload, 1) := by decide +kernel
theorem dJ2_getChar_3b067_49 : decode cJ2_getChar_3b067 49 = .ok (.sipush 255, 3) := by decide +kernel
theorem dJ2_getChar_3b067_52 : decode cJ2_getChar_3b067 52 = .ok (.iand, 1) := by decide +kernel
theorem dJ2_getChar_3b067_53 : decode cJ2_getChar_3b067 53 = .ok (.getstatic 63, 3) := by decide +kernel
theorem dJ2_getChar_3b067_56 : decode cJ2_getChar_3b067 56 = .ok (.ishl, 1) := by decide +kernel
theorem dJ2_getChar_3b067_57 : decode cJ2_getChar_3b067 57 = .ok (.ior, 1) := by decide +kernel
theorem dJ2_getChar_3b067_58 : decode cJ2_getChar_3b067 58 = .ok (.i2c, 1) := by decide +kernel
theorem dJ2_getChar_3b067_59 : decode cJ2_getChar_3b067 59 = .ok (.ireturn, 1) := by decide +kernel
theorem dJ2_length_9d52b_0 : decode cJ2_length_9d52b 0 = .ok (.aload_n 0, 1) := by decide +kernel
theorem dJ2_length_9d52b_1 : decode cJ2_length_9d52b 1 = .ok (.arraylength, 1) := by decide +kernel
theorem dJ2_length_9d52b_2 : decode cJ2_length_9d52b 2 = .ok (.iconst 1, 1) := by decide +kernel
theorem dJ2_length_9d52b_3 : decode cJ2_length_9d52b 3 = .ok (.ishr, 1) := by decide +kernel
theorem dJ2_length_9d52b_4 : decode cJ2_length_9d52b 4 = .ok (.ireturn, 1) := by decide +kernel
theorem dJ2_indexOf_4cfef_0 : decode cJ2_indexOf_4cfef 0 = .ok (.iload_n 2, 1) := by decide +kernel
theorem dJ2_indexOf_4cfef_1 : decode cJ2_indexOf_4cfef 1 = .ok (.iconst 0, 1) := by decide +kernel
theorem dJ2_indexOf_4cfef_2 : decode cJ2_indexOf_4cfef 2 = .ok (.invokestatic 224, 3) := by decide +kernel
theorem dJ2_indexOf_4cfef_5 : decode cJ2_indexOf_4cfef 5 = .ok (.istore_n 2, 1) := by decide +kernel
theorem dJ2_indexOf_4cfef_6 : decode cJ2_indexOf_4cfef 6 = .ok (.iload_n 3, 1) := by decide +kernel
theorem dJ2_indexOf_4cfef_7 : decode cJ2_indexOf_4cfef 7 = .ok (.aload_n 0, 1) := by decide +kernel
theorem dJ2_indexOf_4cfef_8 : decode cJ2_indexOf_4cfef 8 = .ok (.arraylength, 1) := by decide +kernel
theorem dJ2_indexOf_4cfef_9 : decode cJ2_indexOf_4cfef 9 = .ok (.iconst 1, 1) := by decide +kernel
theorem dJ2_indexOf_4cfef_10 : decode cJ2_indexOf_4cfef 10 = .ok (.ishr, 1) := by decide +kernel
theorem dJ2_indexOf_4cfef_11 : decode cJ2_indexOf_4cfef 11 = .ok (.invokestatic 183, 3) := by decide +kernel
theorem dJ2_indexOf_4cfef_14 : decode cJ2_indexOf_4cfef 14 = .ok (.istore_n 3, 1) := by decide +kernel
theorem dJ2_indexOf_4cfef_15 : decode cJ2_indexOf_4cfef 15 = .ok (.iload_n 2, 1) := by decide +kernel
theorem dJ2_indexOf_4cfef_16 : decode cJ2_indexOf_4cfef 16 = .ok (.iload_n 3, 1) := by decide +kernel
theorem dJ2_indexOf_4cfef_17 : decode cJ2_indexOf_4cfef 17 = .ok (.if_icmp .lt 5, 3) := by decide +kernel
theorem dJ2_indexOf_4cfef_20 : decode cJ2_indexOf_4cfef 20 = .ok (.iconst (-1), 1) := by decide +kernel
theorem dJ2_indexOf_4cfef_21 : decode cJ2_indexOf_4cfef 21 = .ok (.ireturn, 1) := by decide +kernel
theorem dJ2_indexOf_4cfef_22 : decode cJ2_indexOf_4cfef 22 = .ok (.iload_n 1, 1) := by decide +kernel
theorem dJ2_indexOf_4cfef_23 : decode cJ2_indexOf_4cfef 23 = .ok (.ldc 227, 2) := by decide +kernel
theorem dJ2_indexOf_4cfef_25 : decode cJ2_indexOf_4cfef 25 = .ok (.if_icmp .ge 11, 3) := by decide +kernel
theorem dJ2_indexOf_4cfef_28 : decode cJ2_indexOf_4cfef 28 = .ok (.aload_n 0, 1) := by decide +kernel
theorem dJ2_indexOf_4cfef_29 : decode cJ2_indexOf_4cfef 29 = .ok (.iload_n 1, 1) := by decide +kernel
theorem dJ2_indexOf_4cfef_30 : decode cJ2_indexOf_4cfef 30 = .ok (.iload_n 2, 1) := by decide +kernel
theorem dJ2_indexOf_4cfef_31 : decode cJ2_indexOf_4cfef 31 = .ok (.iload_n 3, 1) := by decide +kernel
theorem dJ2_indexOf_4cfef_32 : decode cJ2_indexOf_4cfef 32 = .ok (.invokestatic 228, 3) := by decide +kernel
theorem dJ2_indexOf_4cfef_35 : decode cJ2_indexOf_4cfef 35 = .ok (.ireturn, 1) := by decide +kernel
theorem dJ2_indexOf_4cfef_36 : decode cJ2_indexOf_4cfef 36 = .ok (.aload_n 0, 1) := by decide +kernel
theorem dJ2_indexOf_4cfef_37 : decode cJ2_indexOf_4cfef 37 = .ok (.iload_n 1, 1) := by decide +kernel
theorem dJ2_indexOf_4cfef_38 : decode cJ2_indexOf_4cfef 38 = .ok (.iload_n 2, 1) := by decide +kernel
theorem dJ2_indexOf_4cfef_39 : decode cJ2_indexOf_4cfef 39 = .ok (.iload_n 3, 1) := by decide +kernel
theorem dJ2_indexOf_4cfef_40 : decode cJ2_indexOf_4cfef 40 = .ok (.invokestatic 232, 3) := by decide +kernel
theorem dJ2_indexOf_4cfef_43 : decode cJ2_indexOf_4cfef 43 = .ok (.ireturn, 1) := by decide +kernel
theorem dJ2_indexOfChar_4cfef_0 : decode cJ2_indexOfChar_4cfef 0 = .ok (.iload_n 2, 1) := by decide +kernel
theorem dJ2_indexOfChar_4cfef_1 : decode cJ2_indexOfChar_4cfef 1 = .ok (.iload_n 3, 1) := by decide +kernel
theorem dJ2_indexOfChar_4cfef_2 : decode cJ2_indexOfChar_4cfef 2 = .ok (.aload_n 0, 1) := by decide +kernel
theorem dJ2_indexOfChar_4cfef_3 : decode cJ2_indexOfChar_4cfef 3 = .ok (.invokestatic 96, 3) := by decide +kernel
theorem dJ2_indexOfChar_4cfef_6 : decode cJ2_indexOfChar_4cfef 6 = .ok (.aload_n 0, 1) := by decide +kernel
theorem dJ2_indexOfChar_4cfef_7 : decode cJ2_indexOfChar_4cfef 7 = .ok (.iload_n 1, 1) := by decide +kernel
theorem dJ2_indexOfChar_4cfef_8 : decode cJ2_indexOfChar_4cfef 8 = .ok (.iload_n 2, 1) := by decide +kernel
theorem dJ2_indexOfChar_4cfef_9 : decode cJ2_indexOfChar_4cfef 9 = .ok (.iload_n 3, 1) := by decide +kernel
theorem dJ2_indexOfChar_4cfef_10 : decode cJ2_indexOfChar_4cfef 10 = .ok (.invokestatic 244, 3) := by decide +kernel
theorem dJ2_indexOfChar_4cfef_13 : decode cJ2_indexOfChar_4cfef 13 = .ok (.ireturn, 1) := by decide +kernel
theorem dJ2_indexOfCharUnsafe_4cfef_0 : decode cJ2_indexOfCharUnsafe_4cfef 0 = .ok (.iload_n 2, 1) := by decide +kernel
theorem dJ2_indexOfCharUnsafe_4cfef_1 : decode cJ2_indexOfCharUnsafe_4cfef 1 = .ok (.istore 4, 2) := by decide +kernel
theorem dJ2_indexOfCharUnsafe_4cfef_3 : decode cJ2_indexOfCharUnsafe_4cfef 3 = .ok (.iload 4, 2) := by decide +kernel
theorem dJ2_indexOfCharUnsafe_4cfef_5 : decode cJ2_indexOfCharUnsafe_4cfef 5 = .ok (.iload_n 3, 1) := by decide +kernel
theorem dJ2_indexOfCharUnsafe_4cfef_6 : decode cJ2_indexOfCharUnsafe_4cfef 6 = .ok (.if_icmp .ge 22, 3) := by decide +kernel
theorem dJ2_indexOfCharUnsafe_4cfef_9 : decode cJ2_indexOfCharUnsafe_4cfef 9 = .ok (.aload_n 0, 1) := by decide +kernel
theorem dJ2_indexOfCharUnsafe_4cfef_10 : decode cJ2_indexOfCharUnsafe_4cfef 10 = .ok (.iload 4, 2) := by decide +kernel
theorem dJ2_indexOfCharUnsafe_4cfef_12 : decode cJ2_indexOfCharUnsafe_4cfef 12 = .ok (.invokestatic 71, 3) := by decide +kernel
theorem dJ2_indexOfCharUnsafe_4cfef_15 : decode cJ2_indexOfCharUnsafe_4cfef 15 = .ok (.iload_n 1, 1) := by decide +kernel
theorem dJ2_indexOfCharUnsafe_4cfef_16 : decode cJ2_indexOfCharUnsafe_4cfef 16 = .ok (.if_icmp .ne 6, 3) := by decide +kernel
theorem dJ2_indexOfCharUnsafe_4cfef_19 : decode cJ2_indexOfCharUnsafe_4cfef 19 = .ok (.iload 4, 2) := by decide +kernel
theorem dJ2_indexOfCharUnsafe_4cfef_21 : decode cJ2_indexOfCharUnsafe_4cfef 21 = .ok (.ireturn, 1) := by decide +kernel
theorem dJ2_indexOfCharUnsafe_4cfef_22 : decode cJ2_indexOfCharUnsafe_4cfef 22 = .ok (.iinc 4 1, 3) := by decide +kernel
theorem dJ2_indexOfCharUnsafe_4cfef_25 : decode cJ2_indexOfCharUnsafe_4cfef 25 = .ok (.goto (-22), 3) := by decide +kernel
theorem dJ2_indexOfCharUnsafe_4cfef_28 : decode cJ2_indexOfCharUnsafe_4cfef 28 = .ok (.iconst (-1), 1) := by decide +kernel
theorem dJ2_indexOfCharUnsafe_4cfef_29 : decode cJ2_indexOfCharUnsafe_4cfef 29 = .ok (.ireturn, 1) := by decide +kernel
theorem dJ2_indexOfSupplementary_4cfef_0 : decode cJ2_indexOfSupplementary_4cfef 0 = .ok (.iload_n 1, 1) := by decide +kernel
theorem dJ2_indexOfSupplementary_4cfef_1 : decode cJ2_indexOfSupplementary_4cfef 1 = .ok (.invokestatic 164, 3) := by decide +kernel
theorem dJ2_indexOfSupplementary_4cfef_4 : decode cJ2_indexOfSupplementary_4cfef 4 = .ok (.ifCond .eq 65, 3) := by decide +kernel
theorem dJ2_indexOfSupplementary_4cfef_7 : decode cJ2_indexOfSupplementary_4cfef 7 = .ok (.iload_n 1, 1) := by decide +kernel
theorem dJ2_indexOfSupplementary_4cfef_8 : decode cJ2_indexOfSupplementary_4cfef 8 = .ok (.invokestatic 157, 3) := by decide +kernel
theorem dJ2_indexOfSupplementary_4cfef_11 : decode cJ2_indexOfSupplementary_4cfef 11 = .ok (.istore 4, 2) := by decide +kernel
theorem dJ2_indexOfSupplementary_4cfef_13 : decode cJ2_indexOfSupplementary_4cfef 13 = .ok (.iload_n 1, 1) := by decide +kernel
theorem dJ2_indexOfSupplementary_4cfef_14 : decode cJ2_indexOfSupplementary_4cfef 14 = .ok (.invokestatic 161, 3) := by decide +kernel
theorem dJ2_indexOfSupplementary_4cfef_17 : decode cJ2_indexOfSupplementary_4cfef 17 = .ok (.istore 5, 2) := by decide +kernel
theorem dJ2_indexOfSupplementary_4cfef_19 : decode cJ2_indexOfSupplementary_4cfef 19 = .ok (.iload_n 2, 1) := by decide +kernel
theorem dJ2_indexOfSupplementary_4cfef_20 : decode cJ2_indexOfSupplementary_4cfef 20 = .ok (.iload_n 3, 1) := by decide +kernel
theorem dJ2_indexOfSupplementary_4cfef_21 : decode cJ2_indexOfSupplementary_4cfef 21 = .ok (.aload_n 0, 1) := by decide +kernel
theorem dJ2_indexOfSupplementary_4cfef_22 : decode cJ2_indexOfSupplementary_4cfef 22 = .ok (.invokestatic 96, 3) := by decide +kernel
theorem dJ2_indexOfSupplementary_4cfef_25 : decode cJ2_indexOfSupplementary_4cfef 25 = .ok (.iload_n 2, 1) := by decide +kernel
theorem dJ2_indexOfSupplementary_4cfef_26 : decode cJ2_indexOfSupplementary_4cfef 26 = .ok (.istore 6, 2) := by decide +kernel
theorem dJ2_indexOfSupplementary_4cfef_28 : decode cJ2_indexOfSupplementary_4cfef 28 = .ok (.iload 6, 2) := by decide +kernel
theorem dJ2_indexOfSupplementary_4cfef_30 : decode cJ2_indexOfSupplementary_4cfef 30 = .ok (.iload_n 3, 1) := by decide +kernel
theorem dJ2_indexOfSupplementary_4cfef_31 : decode cJ2_indexOfSupplementary_4cfef 31 = .ok (.iconst 1, 1) := by decide +kernel
theorem dJ2_indexOfSupplementary_4cfef_32 : decode cJ2_indexOfSupplementary_4cfef 32 = .ok (.isub, 1) := by decide +kernel
theorem dJ2_indexOfSupplementary_4cfef_33 : decode cJ2_indexOfSupplementary_4cfef 33 = .ok (.if_icmp .ge 36, 3) := by decide +kernel
theorem dJ2_indexOfSupplementary_4cfef_36 : decode cJ2_indexOfSupplementary_4cfef 36 = .ok (.aload_n 0, 1) := by decide +kernel
theorem dJ2_indexOfSupplementary_4cfef_37 : decode cJ2_indexOfSupplementary_4cfef 37 = .ok (.iload 6, 2) := by decide +kernel
theorem dJ2_indexOfSupplementary_4cfef_39 : decode cJ2_indexOfSupplementary_4cfef 39 = .ok (.invokestatic 71, 3) := by decide +kernel
theorem dJ2_indexOfSupplementary_4cfef_42 : decode cJ2_indexOfSupplementary_4cfef 42 = .ok (.iload 4, 2) := by decide +kernel
theorem dJ2_indexOfSupplementary_4cfef_44 : decode cJ2_indexOfSupplementary_4cfef 44 = .ok (.if_icmp .ne 19, 3) := by decide +kernel
theorem dJ2_indexOfSupplementary_4cfef_47 : decode cJ2_indexOfSupplementary_4cfef 47 = .ok (.aload_n 0, 1) := by decide +kernel
theorem dJ2_indexOfSupplementary_4cfef_48 : decode cJ2_indexOfSupplementary_4cfef 48 = .ok (.iload 6, 2) := by decide +kernel
theorem dJ2_indexOfSupplementary_4cfef_50 : decode cJ2_indexOfSupplementary_4cfef 50 = .ok (.iconst 1, 1) := by decide +kernel
theorem dJ2_indexOfSupplementary_4cfef_51 : decode cJ2_indexOfSupplementary_4cfef 51 = .ok (.iadd, 1) := by decide +kernel
theorem dJ2_indexOfSupplementary_4cfef_52 : decode cJ2_indexOfSupplementary_4cfef 52 = .ok (.invokestatic 71, 3) := by decide +kernel
theorem dJ2_indexOfSupplementary_4cfef_55 : decode cJ2_indexOfSupplementary_4cfef 55 = .ok (.iload 5, 2) := by decide +kernel
theorem dJ2_indexOfSupplementary_4cfef_57 : decode cJ2_indexOfSupplementary_4cfef 57 = .ok (.if_icmp .ne 6, 3) := by decide +kernel
theorem dJ2_indexOfSupplementary_4cfef_60 : decode cJ2_indexOfSupplementary_4cfef 60 = .ok (.iload 6, 2) := by decide +kernel
theorem dJ2_indexOfSupplementary_4cfef_62 : decode cJ2_indexOfSupplementary_4cfef 62 = .ok (.ireturn, 1) := by decide +kernel
theorem dJ2_indexOfSupplementary_4cfef_63 : decode cJ2_indexOfSupplementary_4cfef 63 = .ok (.iinc 6 1, 3) := by decide +kernel
theorem dJ2_indexOfSupplementary_4cfef_66 : decode cJ2_indexOfSupplementary_4cfef 66 = .ok (.goto (-38), 3) := by decide +kernel
theorem dJ2_indexOfSupplementary_4cfef_69 : decode cJ2_indexOfSupplementary_4cfef 69 = .ok (.iconst (-1), 1) := by decide +kernel
theorem dJ2_indexOfSupplementary_4cfef_70 : decode cJ2_indexOfSupplementary_4cfef 70 = .ok (.ireturn, 1) := by decide +kernel
theorem dJ2_charAt_3b067_0 : decode cJ2_charAt_3b067 0 = .ok (.iload_n 1, 1) := by decide +kernel
theorem dJ2_charAt_3b067_1 : decode cJ2_charAt_3b067 1 = .ok (.aload_n 0, 1) := by decide +kernel
theorem dJ2_charAt_3b067_2 : decode cJ2_charAt_3b067 2 = .ok (.invokestatic 67, 3) := by decide +kernel
theorem dJ2_charAt_3b067_5 : decode cJ2_charAt_3b067 5 = .ok (.aload_n 0, 1) := by decide +kernel
theorem dJ2_charAt_3b067_6 : decode cJ2_charAt_3b067 6 = .ok (.iload_n 1, 1) := by decide +kernel
theorem dJ2_charAt_3b067_7 : decode cJ2_charAt_3b067 7 = .ok (.invokestatic 71, 3) := by decide +kernel
theorem dJ2_charAt_3b067_10 : decode cJ2_charAt_3b067 10 = .ok (.ireturn, 1) := by decide +kernel
theorem dJ2_checkIndex_2214a_0 : decode cJ2_checkIndex_2214a 0 = .ok (.iload_n 0, 1) := by decide +kernel
theorem dJ2_checkIndex_2214a_1 : decode cJ2_checkIndex_2214a 1 = .ok (.aload_n 1, 1) := by decide +kernel
theorem dJ2_checkIndex_2214a_2 : decode cJ2_checkIndex_2214a 2 = .ok (.invokestatic 48, 3) := by decide +kernel
theorem dJ2_checkIndex_2214a_5 : decode cJ2_checkIndex_2214a 5 = .ok (.invokestatic 414, 3) := by decide +kernel
theorem dJ2_checkIndex_2214a_8 : decode cJ2_checkIndex_2214a 8 = .ok (.return_, 1) := by decide +kernel
theorem dJ2_checkBoundsBeginEnd_d044e_0 : decode cJ2_checkBoundsBeginEnd_d044e 0 = .ok (.iload_n 0, 1) := by decide +kernel
theorem dJ2_checkBoundsBeginEnd_d044e_1 : decode cJ2_checkBoundsBeginEnd_d044e 1 = .ok (.iload_n 1, 1) := by decide +kernel
theorem dJ2_checkBoundsBeginEnd_d044e_2 : decode cJ2_checkBoundsBeginEnd_d044e 2 = .ok (.aload_n 2, 1) := by decide +kernel
theorem dJ2_checkBoundsBeginEnd_d044e_3 : decode cJ2_checkBoundsBeginEnd_d044e 3 = .ok (.invokestatic 48, 3) := by decide +kernel
theorem dJ2_checkBoundsBeginEnd_d044e_6 : decode cJ2_checkBoundsBeginEnd_d044e 6 = .ok (.invokestatic 241, 3) := by decide +kernel
theorem dJ2_checkBoundsBeginEnd_d044e_9 : decode cJ2_checkBoundsBeginEnd_d044e 9 = .ok (.return_, 1) := by decide +kernel
theorem dJ3_checkIndex_8e157_0 : decode cJ3_checkIndex_8e157 0 = .ok (.iload_n 0, 1) := by decide +kernel
theorem dJ3_checkIndex_8e157_1 : decode cJ3_checkIndex_8e157 1 = .ok (.ifCond .lt 8, 3) := by decide +kernel
theorem dJ3_checkIndex_8e157_4 : decode cJ3_checkIndex_8e157 4 = .ok (.iload_n 0, 1) := by decide +kernel
theorem dJ3_checkIndex_8e157_5 : decode cJ3_checkIndex_8e157 5 = .ok (.iload_n 1, 1) := by decide +kernel
theorem dJ3_checkIndex_8e157_6 : decode cJ3_checkIndex_8e157 6 = .ok (.if_icmp .lt 10, 3) := by decide +kernel
theorem dJ3_checkIndex_8e157_9 : decode cJ3_checkIndex_8e157 9 = .ok (.aload_n 2, 1) := by decide +kernel
theorem dJ3_checkIndex_8e157_10 : decode cJ3_checkIndex_8e157 10 = .ok (.iload_n 0, 1) := by decide +kernel
theorem dJ3_checkIndex_8e157_11 : decode cJ3_checkIndex_8e157 11 = .ok (.iload_n 1, 1) := by decide +kernel
theorem dJ3_checkIndex_8e157_12 : decode cJ3_checkIndex_8e157 12 = .ok (.invokestatic 95, 3) := by decide +kernel
theorem dJ3_checkIndex_8e157_15 : decode cJ3_checkIndex_8e157 15 = .ok (.athrow, 1) := by decide +kernel
theorem dJ3_checkIndex_8e157_16 : decode cJ3_checkIndex_8e157 16 = .ok (.iload_n 0, 1) := by decide +kernel
theorem dJ3_checkIndex_8e157_17 : decode cJ3_checkIndex_8e157 17 = .ok (.ireturn, 1) := by decide +kernel
theorem dJ3_checkFromToIndex_8c36e_0 : decode cJ3_checkFromToIndex_8c36e 0 = .ok (.iload_n 0, 1) := by decide +kernel
theorem dJ3_checkFromToIndex_8c36e_1 : decode cJ3_checkFromToIndex_8c36e 1 = .ok (.ifCond .lt 13, 3) := by decide +kernel
theorem dJ3_checkFromToIndex_8c36e_4 : decode cJ3_checkFromToIndex_8c36e 4 = .ok (.iload_n 0, 1) := by decide +kernel
theorem dJ3_checkFromToIndex_8c36e_5 : decode cJ3_checkFromToIndex_8c36e 5 = .ok (.iload_n 1, 1) := by decide +kernel
theorem dJ3_checkFromToIndex_8c36e_6 : decode cJ3_checkFromToIndex_8c36e 6 = .ok (.if_icmp .gt 8, 3) := by decide +kernel
theorem dJ3_checkFromToIndex_8c36e_9 : decode cJ3_checkFromToIndex_8c36e 9 = .ok (.iload_n 1, 1) := by decide +kernel
theorem dJ3_checkFromToIndex_8c36e_10 : decode cJ3_checkFromToIndex_8c36e 10 = .ok (.iload_n 2, 1) := by decide +kernel
theorem dJ3_checkFromToIndex_8c36e_11 : decode cJ3_checkFromToIndex_8c36e 11 = .ok (.if_icmp .le 11, 3) := by decide +kernel
theorem dJ3_checkFromToIndex_8c36e_14 : decode cJ3_checkFromToIndex_8c36e 14 = .ok (.aload_n 3, 1) := by decide +kernel
theorem dJ3_checkFromToIndex_8c36e_15 : decode cJ3_checkFromToIndex_8c36e 15 = .ok (.iload_n 0, 1) := by decide +kernel
theorem dJ3_checkFromToIndex_8c36e_16 : decode cJ3_checkFromToIndex_8c36e 16 = .ok (.iload_n 1, 1) := by decide +kernel
theorem dJ3_checkFromToIndex_8c36e_17 : decode cJ3_checkFromToIndex_8c36e 17 = .ok (.iload_n 2, 1) := by decide +kernel
theorem dJ3_checkFromToIndex_8c36e_18 : decode cJ3_checkFromToIndex_8c36e 18 = .ok (.invokestatic 99, 3) := by decide +kernel
theorem dJ3_checkFromToIndex_8c36e_21 : decode cJ3_checkFromToIndex_8c36e 21 = .ok (.athrow, 1) := by decide +kernel
theorem dJ3_checkFromToIndex_8c36e_22 : decode cJ3_checkFromToIndex_8c36e 22 = .ok (.iload_n 0, 1) := by decide +kernel
theorem dJ3_checkFromToIndex_8c36e_23 : decode cJ3_checkFromToIndex_8c36e 23 = .ok (.ireturn, 1) := by decide +kernel
theorem dL_law_0 : decode cL_law 0 = .ok (.new 7, 3) := by decide +kernel
theorem dL_law_3 : decode cL_law 3 = .ok (.dup, 1) := by decide +kernel
theorem dL_law_4 : decode cL_law 4 = .ok (.invokespecial 9, 3) := by decide +kernel
theorem dL_law_7 : decode cL_law 7 = .ok (.astore_n 1, 1) := by decide +kernel
theorem dL_law_8 : decode cL_law 8 = .ok (.new 10, 3) := by decide +kernel
theorem dL_law_11 : decode cL_law 11 = .ok (.dup, 1) := by decide +kernel
theorem dL_law_12 : decode cL_law 12 = .ok (.invokespecial 12, 3) := by decide +kernel
theorem dL_law_15 : decode cL_law 15 = .ok (.astore_n 2, 1) := by decide +kernel
theorem dL_law_16 : decode cL_law 16 = .ok (.iconst 0, 1) := by decide +kernel
theorem dL_law_17 : decode cL_law 17 = .ok (.istore_n 3, 1) := by decide +kernel
theorem dL_law_18 : decode cL_law 18 = .ok (.iload_n 3, 1) := by decide +kernel
theorem dL_law_19 : decode cL_law 19 = .ok (.aload_n 0, 1) := by decide +kernel
theorem dL_law_20 : decode cL_law 20 = .ok (.arraylength, 1) := by decide +kernel
theorem dL_law_21 : decode cL_law 21 = .ok (.bipush 6, 2) := by decide +kernel
theorem dL_law_23 : decode cL_law 23 = .ok (.isub, 1) := by decide +kernel
theorem dL_law_24 : decode cL_law 24 = .ok (.if_icmp .gt 1674, 3) := by decide +kernel
theorem dL_law_27 : decode cL_law 27 = .ok (.aload_n 0, 1) := by decide +kernel
theorem dL_law_28 : decode cL_law 28 = .ok (.iload_n 3, 1) := by decide +kernel
theorem dL_law_29 : decode cL_law 29 = .ok (.iaload, 1) := by decide +kernel
theorem dL_law_30 : decode cL_law 30 = .ok (.bipush 63, 2) := by decide +kernel
theorem dL_law_32 : decode cL_law 32 = .ok (.iand, 1) := by decide +kernel
theorem dL_law_33 : decode cL_law 33 = .ok (.tableswitch 1659 0 53 #[231, 294, 317, 330, 353, 386, 409, 452, 465, 488, 511, 524, 537, 570, 603, 646, 689, 712, 735, 768, 801, 834, 867, 910, 943, 996, 1029, 1062, 1075, 1098, 1111, 1124, 1137, 1160, 1173, 1186, 1199, 1222, 1255, 1268, 1291, 1304, 1327, 1340, 1353, 1376, 1425, 1448, 1471, 1504, 1547, 1590, 1613, 1636], 231) := by decide +kernel
theorem dL_law_264 : decode cL_law 264 = .ok (.aload_n 1, 1) := by decide +kernel
theorem dL_law_265 : decode cL_law 265 = .ok (.aload_n 0, 1) := by decide +kernel
theorem dL_law_266 : decode cL_law 266 = .ok (.iload_n 3, 1) := by decide +kernel
theorem dL_law_267 : decode cL_law 267 = .ok (.iconst 1, 1) := by decide +kernel
theorem dL_law_268 : decode cL_law 268 = .ok (.iadd, 1) := by decide +kernel
theorem dL_law_269 : decode cL_law 269 = .ok (.iaload, 1) := by decide +kernel
theorem dL_law_270 : decode cL_law 270 = .ok (.aload_n 0, 1) := by decide +kernel
theorem dL_law_271 : decode cL_law 271 = .ok (.iload_n 3, 1) := by decide +kernel
theorem dL_law_272 : decode cL_law 272 = .ok (.iconst 2, 1) := by decide +kernel
theorem dL_law_273 : decode cL_law 273 = .ok (.iadd, 1) := by decide +kernel
theorem dL_law_274 : decode cL_law 274 = .ok (.iaload, 1) := by decide +kernel
theorem dL_law_275 : decode cL_law 275 = .ok (.aload_n 0, 1) := by decide +kernel
theorem dL_law_276 : decode cL_law 276 = .ok (.iload_n 3, 1) := by decide +kernel
theorem dL_law_277 : decode cL_law 277 = .ok (.iconst 3, 1) := by decide +kernel
theorem dL_law_278 : decode cL_law 278 = .ok (.iadd, 1) := by decide +kernel
theorem dL_law_279 : decode cL_law 279 = .ok (.iaload, 1) := by decide +kernel
theorem dL_law_280 : decode cL_law 280 = .ok (.aload_n 0, 1) := by decide +kernel
theorem dL_law_281 : decode cL_law 281 = .ok (.iload_n 3, 1) := by decide +kernel
theorem dL_law_282 : decode cL_law 282 = .ok (.iconst 4, 1) := by decide +kernel
theorem dL_law_283 : decode cL_law 283 = .ok (.iadd, 1) := by decide +kernel
theorem dL_law_284 : decode cL_law 284 = .ok (.iaload, 1) := by decide +kernel
theorem dL_law_285 : decode cL_law 285 = .ok (.aload_n 0, 1) := by decide +kernel
theorem dL_law_286 : decode cL_law 286 = .ok (.iload_n 3, 1) := by decide +kernel
theorem dL_law_287 : decode cL_law 287 = .ok (.iconst 5, 1) := by decide +kernel
theorem dL_law_288 : decode cL_law 288 = .ok (.iadd, 1) := by decide +kernel
theorem dL_law_289 : decode cL_law 289 = .ok (.iaload, 1) := by decide +kernel
theorem dL_law_290 : decode cL_law 290 = .ok (.invokevirtual 13, 3) := by decide +kernel
theorem dL_law_293 : decode cL_law 293 = .ok (.aload_n 2, 1) := by decide +kernel
theorem dL_law_294 : decode cL_law 294 = .ok (.aload_n 0, 1) := by decide +kernel
theorem dL_law_295 : decode cL_law 295 = .ok (.iload_n 3, 1) := by decide +kernel
theorem dL_law_296 : decode cL_law 296 = .ok (.iconst 1, 1) := by decide +kernel
theorem dL_law_297 : decode cL_law 297 = .ok (.iadd, 1) := by decide +kernel
theorem dL_law_298 : decode cL_law 298 = .ok (.iaload, 1) := by decide +kernel
theorem dL_law_299 : decode cL_law 299 = .ok (.aload_n 0, 1) := by decide +kernel
theorem dL_law_300 : decode cL_law 300 = .ok (.iload_n 3, 1) := by decide +kernel
theorem dL_law_301 : decode cL_law 301 = .ok (.iconst 2, 1) := by decide +kernel
theorem dL_law_302 : decode cL_law 302 = .ok (.iadd, 1) := by decide +kernel
theorem dL_law_303 : decode cL_law 303 = .ok (.iaload, 1) := by decide +kernel
theorem dL_law_304 : decode cL_law 304 = .ok (.aload_n 0, 1) := by decide +kernel
theorem dL_law_305 : decode cL_law 305 = .ok (.iload_n 3, 1) := by decide +kernel
theorem dL_law_306 : decode cL_law 306 = .ok (.iconst 3, 1) := by decide +kernel
theorem dL_law_307 : decode cL_law 307 = .ok (.iadd, 1) := by decide +kernel
theorem dL_law_308 : decode cL_law 308 = .ok (.iaload, 1) := by decide +kernel
theorem dL_law_309 : decode cL_law 309 = .ok (.aload_n 0, 1) := by decide +kernel
theorem dL_law_310 : decode cL_law 310 = .ok (.iload_n 3, 1) := by decide +kernel
theorem dL_law_311 : decode cL_law 311 = .ok (.iconst 4, 1) := by decide +kernel
theorem dL_law_312 : decode cL_law 312 = .ok (.iadd, 1) := by decide +kernel
theorem dL_law_313 : decode cL_law 313 = .ok (.iaload, 1) := by decide +kernel
theorem dL_law_314 : decode cL_law 314 = .ok (.aload_n 0, 1) := by decide +kernel
theorem dL_law_315 : decode cL_law 315 = .ok (.iload_n 3, 1) := by decide +kernel
theorem dL_law_316 : decode cL_law 316 = .ok (.iconst 5, 1) := by decide +kernel
theorem dL_law_317 : decode cL_law 317 = .ok (.iadd, 1) := by decide +kernel
theorem dL_law_318 : decode cL_law 318 = .ok (.iaload, 1) := by decide +kernel
theorem dL_law_319 : decode cL_law 319 = .ok (.invokevirtual 17, 3) := by decide +kernel
theorem dL_law_322 : decode cL_law 322 = .ok (.if_icmp .eq 1370, 3) := by decide +kernel
theorem dL_law_325 : decode cL_law 325 = .ok (.iconst 0, 1) := by decide +kernel
theorem dL_law_326 : decode cL_law 326 = .ok (.ireturn, 1) := by decide +kernel
theorem dL_law_327 : decode cL_law 327 = .ok (.aload_n 1, 1) := by decide +kernel
theorem dL_law_328 : decode cL_law 328 = .ok (.aload_n 0, 1) := by decide +kernel
theorem dL_law_329 : decode cL_law 329 = .ok (.iload_n 3, 1) := by decide +kernel
theorem dL_law_330 : decode cL_law 330 = .ok (.iconst 1, 1) := by decide +kernel
theorem dL_law_331 : decode cL_law 331 = .ok (.iadd, 1) := by decide +kernel
theorem dL_law_332 : decode cL_law 332 = .ok (.iaload, 1) := by decide +kernel
theorem dL_law_333 : decode cL_law 333 = .ok (.invokevirtual 18, 3) := by decide +kernel
theorem dL_law_336 : decode cL_law 336 = .ok (.aload_n 2, 1) := by decide +kernel
theorem dL_law_337 : decode cL_law 337 = .ok (.aload_n 0, 1) := by decide +kernel
theorem dL_law_338 : decode cL_law 338 = .ok (.iload_n 3, 1) := by decide +kernel
theorem dL_law_339 : decode cL_law 339 = .ok (.iconst 1, 1) := by decide +kernel
theorem dL_law_340 : decode cL_law 340 = .ok (.iadd, 1) := by decide +kernel
theorem dL_law_341 : decode cL_law 341 = .ok (.iaload, 1) := by decide +kernel
theorem dL_law_342 : decode cL_law 342 = .ok (.invokevirtual 22, 3) := by decide +kernel
theorem dL_law_345 : decode cL_law 345 = .ok (.if_icmp .eq 1347, 3) := by decide +kernel
theorem dL_law_348 : decode cL_law 348 = .ok (.iconst 0, 1) := by decide +kernel
theorem dL_law_349 : decode cL_law 349 = .ok (.ireturn, 1) := by decide +kernel
theorem dL_law_350 : decode cL_law 350 = .ok (.aload_n 1, 1) := by decide +kernel
theorem dL_law_351 : decode cL_law 351 = .ok (.invokevirtual 23, 3) := by decide +kernel
theorem dL_law_354 : decode cL_law 354 = .ok (.aload_n 2, 1) := by decide +kernel
theorem dL_law_355 : decode cL_law 355 = .ok (.invokevirtual 27, 3) := by decide +kernel
theorem dL_law_358 : decode cL_law 358 = .ok (.if_icmp .eq 1334, 3) := by decide +kernel
theorem dL_law_361 : decode cL_law 361 = .ok (.iconst 0, 1) := by decide +kernel
theorem dL_law_362 : decode cL_law 362 = .ok (.ireturn, 1) := by decide +kernel
theorem dL_law_363 : decode cL_law 363 = .ok (.aload_n 1, 1) := by decide +kernel
theorem dL_law_364 : decode cL_law 364 = .ok (.aload_n 0, 1) := by decide +kernel
theorem dL_law_365 : decode cL_law 365 = .ok (.iload_n 3, 1) := by decide +kernel
theorem dL_law_366 : decode cL_law 366 = .ok (.iconst 1, 1) := by decide +kernel
theorem dL_law_367 : decode cL_law 367 = .ok (.iadd, 1) := by decide +kernel
theorem dL_law_368 : decode cL_law 368 = .ok (.iaload, 1) := by decide +kernel
theorem dL_law_369 : decode cL_law 369 = .ok (.invokevirtual 28, 3) := by decide +kernel
theorem dL_law_372 : decode cL_law 372 = .ok (.aload_n 2, 1) := by decide +kernel
theorem dL_law_373 : decode cL_law 373 = .ok (.aload_n 0, 1) := by decide +kernel
theorem dL_law_374 : decode cL_law 374 = .ok (.iload_n 3, 1) := by decide +kernel
theorem dL_law_375 : decode cL_law 375 = .ok (.iconst 1, 1) := by decide +kernel
theorem dL_law_376 : decode cL_law 376 = .ok (.iadd, 1) := by decide +kernel
theorem dL_law_377 : decode cL_law 377 = .ok (.iaload, 1) := by decide +kernel
theorem dL_law_378 : decode cL_law 378 = .ok (.invokevirtual 31, 3) := by decide +kernel
theorem dL_law_381 : decode cL_law 381 = .ok (.if_icmp .eq 1311, 3) := by decide +kernel
theorem dL_law_384 : decode cL_law 384 = .ok (.iconst 0, 1) := by decide +kernel
theorem dL_law_385 : decode cL_law 385 = .ok (.ireturn, 1) := by decide +kernel
theorem dL_law_386 : decode cL_law 386 = .ok (.aload_n 1, 1) := by decide +kernel
theorem dL_law_387 : decode cL_law 387 = .ok (.aload_n 0, 1) := by decide +kernel
theorem dL_law_388 : decode cL_law 388 = .ok (.iload_n 3, 1) := by decide +kernel
theorem dL_law_389 : decode cL_law 389 = .ok (.iconst 1, 1) := by decide +kernel
theorem dL_law_390 : decode cL_law 390 = .ok (.iadd, 1) := by decide +kernel
theorem dL_law_391 : decode cL_law 391 = .ok (.iaload, 1) := by decide +kernel
theorem dL_law_392 : decode cL_law 392 = .ok (.aload_n 0, 1) := by decide +kernel
theorem dL_law_393 : decode cL_law 393 = .ok (.iload_n 3, 1) := by decide +kernel
theorem dL_law_394 : decode cL_law 394 = .ok (.iconst 2, 1) := by decide +kernel
theorem dL_law_395 : decode cL_law 395 = .ok (.iadd, 1) := by decide +kernel
theorem dL_law_396 : decode cL_law 396 = .ok (.iaload, 1) := by decide +kernel
theorem dL_law_397 : decode cL_law 397 = .ok (.invokevirtual 32, 3) := by decide +kernel
theorem dL_law_400 : decode cL_law 400 = .ok (.aload_n 2, 1) := by decide +kernel
theorem dL_law_401 : decode cL_law 401 = .ok (.aload_n 0, 1) := by decide +kernel
theorem dL_law_402 : decode cL_law 402 = .ok (.iload_n 3, 1) := by decide +kernel
theorem dL_law_403 : decode cL_law 403 = .ok (.iconst 1, 1) := by decide +kernel
theorem dL_law_404 : decode cL_law 404 = .ok (.iadd, 1) := by decide +kernel
theorem dL_law_405 : decode cL_law 405 = .ok (.iaload, 1) := by decide +kernel
theorem dL_law_406 : decode cL_law 406 = .ok (.aload_n 0, 1) := by decide +kernel
theorem dL_law_407 : decode cL_law 407 = .ok (.iload_n 3, 1) := by decide +kernel
theorem dL_law_408 : decode cL_law 408 = .ok (.iconst 2, 1) := by decide +kernel
theorem dL_law_409 : decode cL_law 409 = .ok (.iadd, 1) := by decide +kernel
theorem dL_law_410 : decode cL_law 410 = .ok (.iaload, 1) := by decide +kernel
theorem dL_law_411 : decode cL_law 411 = .ok (.invokevirtual 36, 3) := by decide +kernel
theorem dL_law_414 : decode cL_law 414 = .ok (.if_icmp .eq 1278, 3) := by decide +kernel
theorem dL_law_417 : decode cL_law 417 = .ok (.iconst 0, 1) := by decide +kernel
theorem dL_law_418 : decode cL_law 418 = .ok (.ireturn, 1) := by decide +kernel
theorem dL_law_419 : decode cL_law 419 = .ok (.aload_n 1, 1) := by decide +kernel
theorem dL_law_420 : decode cL_law 420 = .ok (.aload_n 0, 1) := by decide +kernel
theorem dL_law_421 : decode cL_law 421 = .ok (.iload_n 3, 1) := by decide +kernel
theorem dL_law_422 : decode cL_law 422 = .ok (.iconst 1, 1) := by decide +kernel
theorem dL_law_423 : decode cL_law 423 = .ok (.iadd, 1) := by decide +kernel
theorem dL_law_424 : decode cL_law 424 = .ok (.iaload, 1) := by decide +kernel
theorem dL_law_425 : decode cL_law 425 = .ok (.invokevirtual 37, 3) := by decide +kernel
theorem dL_law_428 : decode cL_law 428 = .ok (.aload_n 2, 1) := by decide +kernel
theorem dL_law_429 : decode cL_law 429 = .ok (.aload_n 0, 1) := by decide +kernel
theorem dL_law_430 : decode cL_law 430 = .ok (.iload_n 3, 1) := by decide +kernel
theorem dL_law_431 : decode cL_law 431 = .ok (.iconst 1, 1) := by decide +kernel
theorem dL_law_432 : decode cL_law 432 = .ok (.iadd, 1) := by decide +kernel
theorem dL_law_433 : decode cL_law 433 = .ok (.iaload, 1) := by decide +kernel
theorem dL_law_434 : decode cL_law 434 = .ok (.invokevirtual 40, 3) := by decide +kernel
theorem dL_law_437 : decode cL_law 437 = .ok (.if_icmp .eq 1255, 3) := by decide +kernel
theorem dL_law_440 : decode cL_law 440 = .ok (.iconst 0, 1) := by decide +kernel
theorem dL_law_441 : decode cL_law 441 = .ok (.ireturn, 1) := by decide +kernel
theorem dL_law_442 : decode cL_law 442 = .ok (.aload_n 1, 1) := by decide +kernel
theorem dL_law_443 : decode cL_law 443 = .ok (.aload_n 0, 1) := by decide +kernel
theorem dL_law_444 : decode cL_law 444 = .ok (.iload_n 3, 1) := by decide +kernel
theorem dL_law_445 : decode cL_law 445 = .ok (.iconst 1, 1) := by decide +kernel
theorem dL_law_446 : decode cL_law 446 = .ok (.iadd, 1) := by decide +kernel
theorem dL_law_447 : decode cL_law 447 = .ok (.iaload, 1) := by decide +kernel
theorem dL_law_448 : decode cL_law 448 = .ok (.aload_n 0, 1) := by decide +kernel
theorem dL_law_449 : decode cL_law 449 = .ok (.iload_n 3, 1) := by decide +kernel
theorem dL_law_450 : decode cL_law 450 = .ok (.iconst 2, 1) := by decide +kernel
theorem dL_law_451 : decode cL_law 451 = .ok (.iadd, 1) := by decide +kernel
theorem dL_law_452 : decode cL_law 452 = .ok (.iaload, 1) := by decide +kernel
theorem dL_law_453 : decode cL_law 453 = .ok (.aload_n 0, 1) := by decide +kernel
theorem dL_law_454 : decode cL_law 454 = .ok (.iload_n 3, 1) := by decide +kernel
theorem dL_law_455 : decode cL_law 455 = .ok (.iconst 3, 1) := by decide +kernel
theorem dL_law_456 : decode cL_law 456 = .ok (.iadd, 1) := by decide +kernel
theorem dL_law_457 : decode cL_law 457 = .ok (.iaload, 1) := by decide +kernel
theorem dL_law_458 : decode cL_law 458 = .ok (.invokevirtual 41, 3) := by decide +kernel
theorem dL_law_461 : decode cL_law 461 = .ok (.aload_n 2, 1) := by decide +kernel
theorem dL_law_462 : decode cL_law 462 = .ok (.aload_n 0, 1) := by decide +kernel
theorem dL_law_463 : decode cL_law 463 = .ok (.iload_n 3, 1) := by decide +kernel
theorem dL_law_464 : decode cL_law 464 = .ok (.iconst 1, 1) := by decide +kernel
theorem dL_law_465 : decode cL_law 465 = .ok (.iadd, 1) := by decide +kernel
theorem dL_law_466 : decode cL_law 466 = .ok (.iaload, 1) := by decide +kernel
theorem dL_law_467 : decode cL_law 467 = .ok (.aload_n 0, 1) := by decide +kernel
theorem dL_law_468 : decode cL_law 468 = .ok (.iload_n 3, 1) := by decide +kernel
theorem dL_law_469 : decode cL_law 469 = .ok (.iconst 2, 1) := by decide +kernel
theorem dL_law_470 : decode cL_law 470 = .ok (.iadd, 1) := by decide +kernel
theorem dL_law_471 : decode cL_law 471 = .ok (.iaload, 1) := by decide +kernel
theorem dL_law_472 : decode cL_law 472 = .ok (.aload_n 0, 1) := by decide +kernel
theorem dL_law_473 : decode cL_law 473 = .ok (.iload_n 3, 1) := by decide +kernel
theorem dL_law_474 : decode cL_law 474 = .ok (.iconst 3, 1) := by decide +kernel
theorem dL_law_475 : decode cL_law 475 = .ok (.iadd, 1) := by decide +kernel
theorem dL_law_476 : decode cL_law 476 = .ok (.iaload, 1) := by decide +kernel
theorem dL_law_477 : decode cL_law 477 = .ok (.invokevirtual 45, 3) := by decide +kernel
theorem dL_law_480 : decode cL_law 480 = .ok (.if_icmp .eq 1212, 3) := by decide +kernel
theorem dL_law_483 : decode cL_law 483 = .ok (.iconst 0, 1) := by decide +kernel
theorem dL_law_484 : decode cL_law 484 = .ok (.ireturn, 1) := by decide +kernel
theorem dL_law_485 : decode cL_law 485 = .ok (.aload_n 1, 1) := by decide +kernel
theorem dL_law_486 : decode cL_law 486 = .ok (.invokevirtual 46, 3) := by decide +kernel
theorem dL_law_489 : decode cL_law 489 = .ok (.aload_n 2, 1) := by decide +kernel
theorem dL_law_490 : decode cL_law 490 = .ok (.invokevirtual 49, 3) := by decide +kernel
theorem dL_law_493 : decode cL_law 493 = .ok (.if_icmp .eq 1199, 3) := by decide +kernel
theorem dL_law_496 : decode cL_law 496 = .ok (.iconst 0, 1) := by decide +kernel
theorem dL_law_497 : decode cL_law 497 = .ok (.ireturn, 1) := by decide +kernel
theorem dL_law_498 : decode cL_law 498 = .ok (.aload_n 1, 1) := by decide +kernel
theorem dL_law_499 : decode cL_law 499 = .ok (.aload_n 0, 1) := by decide +kernel
theorem dL_law_500 : decode cL_law 500 = .ok (.iload_n 3, 1) := by decide +kernel
theorem dL_law_501 : decode cL_law 501 = .ok (.iconst 1, 1) := by decide +kernel
theorem dL_law_502 : decode cL_law 502 = .ok (.iadd, 1) := by decide +kernel
theorem dL_law_503 : decode cL_law 503 = .ok (.iaload, 1) := by decide +kernel
theorem dL_law_504 : decode cL_law 504 = .ok (.invokevirtual 50, 3) := by decide +kernel
theorem dL_law_507 : decode cL_law 507 = .ok (.aload_n 2, 1) := by decide +kernel
theorem dL_law_508 : decode cL_law 508 = .ok (.aload_n 0, 1) := by decide +kernel
theorem dL_law_509 : decode cL_law 509 = .ok (.iload_n 3, 1) := by decide +kernel
theorem dL_law_510 : decode cL_law 510 = .ok (.iconst 1, 1) := by decide +kernel
theorem dL_law_511 : decode cL_law 511 = .ok (.iadd, 1) := by decide +kernel
theorem dL_law_512 : decode cL_law 512 = .ok (.iaload, 1) := by decide +kernel
theorem dL_law_513 : decode cL_law 513 = .ok (.invokevirtual 53, 3) := by decide +kernel
theorem dL_law_516 : decode cL_law 516 = .ok (.if_icmp .eq 1176, 3) := by decide +kernel
theorem dL_law_519 : decode cL_law 519 = .ok (.iconst 0, 1) := by decide +kernel
theorem dL_law_520 : decode cL_law 520 = .ok (.ireturn, 1) := by decide +kernel
theorem dL_law_521 : decode cL_law 521 = .ok (.aload_n 1, 1) := by decide +kernel
theorem dL_law_522 : decode cL_law 522 = .ok (.aload_n 0, 1) := by decide +kernel
theorem dL_law_523 : decode cL_law 523 = .ok (.iload_n 3, 1) := by decide +kernel
theorem dL_law_524 : decode cL_law 524 = .ok (.iconst 1, 1) := by decide +kernel
theorem dL_law_525 : decode cL_law 525 = .ok (.iadd, 1) := by decide +kernel
theorem dL_law_526 : decode cL_law 526 = .ok (.iaload, 1) := by decide +kernel
theorem dL_law_527 : decode cL_law 527 = .ok (.invokevirtual 54, 3) := by decide +kernel
theorem dL_law_530 : decode cL_law 530 = .ok (.aload_n 2, 1) := by decide +kernel
theorem dL_law_531 : decode cL_law 531 = .ok (.aload_n 0, 1) := by decide +kernel
theorem dL_law_532 : decode cL_law 532 = .ok (.iload_n 3, 1) := by decide +kernel
theorem dL_law_533 : decode cL_law 533 = .ok (.iconst 1, 1) := by decide +kernel
theorem dL_law_534 : decode cL_law 534 = .ok (.iadd, 1) := by decide +kernel
theorem dL_law_535 : decode cL_law 535 = .ok (.iaload, 1) := by decide +kernel
theorem dL_law_536 : decode cL_law 536 = .ok (.invokevirtual 57, 3) := by decide +kernel
theorem dL_law_539 : decode cL_law 539 = .ok (.if_icmp .eq 1153, 3) := by decide +kernel
theorem dL_law_542 : decode cL_law 542 = .ok (.iconst 0, 1) := by decide +kernel
theorem dL_law_543 : decode cL_law 543 = .ok (.ireturn, 1) := by decide +kernel
theorem dL_law_544 : decode cL_law 544 = .ok (.aload_n 1, 1) := by decide +kernel
theorem dL_law_545 : decode cL_law 545 = .ok (.invokevirtual 58, 3) := by decide +kernel
theorem dL_law_548 : decode cL_law 548 = .ok (.aload_n 2, 1) := by decide +kernel
theorem dL_law_549 : decode cL_law 549 = .ok (.invokevirtual 62, 3) := by decide +kernel
theorem dL_law_552 : decode cL_law 552 = .ok (.if_icmp .eq 1140, 3) := by decide +kernel
theorem dL_law_555 : decode cL_law 555 = .ok (.iconst 0, 1) := by decide +kernel
theorem dL_law_556 : decode cL_law 556 = .ok (.ireturn, 1) := by decide +kernel
theorem dL_law_557 : decode cL_law 557 = .ok (.aload_n 1, 1) := by decide +kernel
theorem dL_law_558 : decode cL_law 558 = .ok (.invokevirtual 63, 3) := by decide +kernel
theorem dL_law_561 : decode cL_law 561 = .ok (.aload_n 2, 1) := by decide +kernel
theorem dL_law_562 : decode cL_law 562 = .ok (.invokevirtual 66, 3) := by decide +kernel
theorem dL_law_565 : decode cL_law 565 = .ok (.if_icmp .eq 1127, 3) := by decide +kernel
theorem dL_law_568 : decode cL_law 568 = .ok (.iconst 0, 1) := by decide +kernel
theorem dL_law_569 : decode cL_law 569 = .ok (.ireturn, 1) := by decide +kernel
theorem dL_law_570 : decode cL_law 570 = .ok (.aload_n 1, 1) := by decide +kernel
theorem dL_law_571 : decode cL_law 571 = .ok (.aload_n 0, 1) := by decide +kernel
theorem dL_law_572 : decode cL_law 572 = .ok (.iload_n 3, 1) := by decide +kernel
theorem dL_law_573 : decode cL_law 573 = .ok (.iconst 1, 1) := by decide +kernel
theorem dL_law_574 : decode cL_law 574 = .ok (.iadd, 1) := by decide +kernel
theorem dL_law_575 : decode cL_law 575 = .ok (.iaload, 1) := by decide +kernel
theorem dL_law_576 : decode cL_law 576 = .ok (.aload_n 0, 1) := by decide +kernel
theorem dL_law_577 : decode cL_law 577 = .ok (.iload_n 3, 1) := by decide +kernel
theorem dL_law_578 : decode cL_law 578 = .ok (.iconst 2, 1) := by decide +kernel
theorem dL_law_579 : decode cL_law 579 = .ok (.iadd, 1) := by decide +kernel
theorem dL_law_580 : decode cL_law 580 = .ok (.iaload, 1) := by decide +kernel
theorem dL_law_581 : decode cL_law 581 = .ok (.invokevirtual 67, 3) := by decide +kernel
theorem dL_law_584 : decode cL_law 584 = .ok (.aload_n 2, 1) := by decide +kernel
theorem dL_law_585 : decode cL_law 585 = .ok (.aload_n 0, 1) := by decide +kernel
theorem dL_law_586 : decode cL_law 586 = .ok (.iload_n 3, 1) := by decide +kernel
theorem dL_law_587 : decode cL_law 587 = .ok (.iconst 1, 1) := by decide +kernel
theorem dL_law_588 : decode cL_law 588 = .ok (.iadd, 1) := by decide +kernel
theorem dL_law_589 : decode cL_law 589 = .ok (.iaload, 1) := by decide +kernel
theorem dL_law_590 : decode cL_law 590 = .ok (.aload_n 0, 1) := by decide +kernel
theorem dL_law_591 : decode cL_law 591 = .ok (.iload_n 3, 1) := by decide +kernel
theorem dL_law_592 : decode cL_law 592 = .ok (.iconst 2, 1) := by decide +kernel
theorem dL_law_593 : decode cL_law 593 = .ok (.iadd, 1) := by decide +kernel
theorem dL_law_594 : decode cL_law 594 = .ok (.iaload, 1) := by decide +kernel
theorem dL_law_595 : decode cL_law 595 = .ok (.invokevirtual 70, 3) := by decide +kernel
theorem dL_law_598 : decode cL_law 598 = .ok (.if_icmp .eq 1094, 3) := by decide +kernel
theorem dL_law_601 : decode cL_law 601 = .ok (.iconst 0, 1) := by decide +kernel
theorem dL_law_602 : decode cL_law 602 = .ok (.ireturn, 1) := by decide +kernel
theorem dL_law_603 : decode cL_law 603 = .ok (.aload_n 1, 1) := by decide +kernel
theorem dL_law_604 : decode cL_law 604 = .ok (.aload_n 0, 1) := by decide +kernel
theorem dL_law_605 : decode cL_law 605 = .ok (.iload_n 3, 1) := by decide +kernel
theorem dL_law_606 : decode cL_law 606 = .ok (.iconst 1, 1) := by decide +kernel
theorem dL_law_607 : decode cL_law 607 = .ok (.iadd, 1) := by decide +kernel
theorem dL_law_608 : decode cL_law 608 = .ok (.iaload, 1) := by decide +kernel
theorem dL_law_609 : decode cL_law 609 = .ok (.aload_n 0, 1) := by decide +kernel
theorem dL_law_610 : decode cL_law 610 = .ok (.iload_n 3, 1) := by decide +kernel
theorem dL_law_611 : decode cL_law 611 = .ok (.iconst 2, 1) := by decide +kernel
theorem dL_law_612 : decode cL_law 612 = .ok (.iadd, 1) := by decide +kernel
theorem dL_law_613 : decode cL_law 613 = .ok (.iaload, 1) := by decide +kernel
theorem dL_law_614 : decode cL_law 614 = .ok (.invokevirtual 71, 3) := by decide +kernel
theorem dL_law_617 : decode cL_law 617 = .ok (.aload_n 2, 1) := by decide +kernel
theorem dL_law_618 : decode cL_law 618 = .ok (.aload_n 0, 1) := by decide +kernel
theorem dL_law_619 : decode cL_law 619 = .ok (.iload_n 3, 1) := by decide +kernel
theorem dL_law_620 : decode cL_law 620 = .ok (.iconst 1, 1) := by decide +kernel
theorem dL_law_621 : decode cL_law 621 = .ok (.iadd, 1) := by decide +kernel
theorem dL_law_622 : decode cL_law 622 = .ok (.iaload, 1) := by decide +kernel
theorem dL_law_623 : decode cL_law 623 = .ok (.aload_n 0, 1) := by decide +kernel
theorem dL_law_624 : decode cL_law 624 = .ok (.iload_n 3, 1) := by decide +kernel
theorem dL_law_625 : decode cL_law 625 = .ok (.iconst 2, 1) := by decide +kernel
theorem dL_law_626 : decode cL_law 626 = .ok (.iadd, 1) := by decide +kernel
theorem dL_law_627 : decode cL_law 627 = .ok (.iaload, 1) := by decide +kernel
theorem dL_law_628 : decode cL_law 628 = .ok (.invokevirtual 74, 3) := by decide +kernel
theorem dL_law_631 : decode cL_law 631 = .ok (.if_icmp .eq 1061, 3) := by decide +kernel
theorem dL_law_634 : decode cL_law 634 = .ok (.iconst 0, 1) := by decide +kernel
theorem dL_law_635 : decode cL_law 635 = .ok (.ireturn, 1) := by decide +kernel
theorem dL_law_636 : decode cL_law 636 = .ok (.aload_n 1, 1) := by decide +kernel
theorem dL_law_637 : decode cL_law 637 = .ok (.aload_n 0, 1) := by decide +kernel
theorem dL_law_638 : decode cL_law 638 = .ok (.iload_n 3, 1) := by decide +kernel
theorem dL_law_639 : decode cL_law 639 = .ok (.iconst 1, 1) := by decide +kernel
theorem dL_law_640 : decode cL_law 640 = .ok (.iadd, 1) := by decide +kernel
theorem dL_law_641 : decode cL_law 641 = .ok (.iaload, 1) := by decide +kernel
theorem dL_law_642 : decode cL_law 642 = .ok (.aload_n 0, 1) := by decide +kernel
theorem dL_law_643 : decode cL_law 643 = .ok (.iload_n 3, 1) := by decide +kernel
theorem dL_law_644 : decode cL_law 644 = .ok (.iconst 2, 1) := by decide +kernel
theorem dL_law_645 : decode cL_law 645 = .ok (.iadd, 1) := by decide +kernel
theorem dL_law_646 : decode cL_law 646 = .ok (.iaload, 1) := by decide +kernel
theorem dL_law_647 : decode cL_law 647 = .ok (.aload_n 0, 1) := by decide +kernel
theorem dL_law_648 : decode cL_law 648 = .ok (.iload_n 3, 1) := by decide +kernel
theorem dL_law_649 : decode cL_law 649 = .ok (.iconst 3, 1) := by decide +kernel
theorem dL_law_650 : decode cL_law 650 = .ok (.iadd, 1) := by decide +kernel
theorem dL_law_651 : decode cL_law 651 = .ok (.iaload, 1) := by decide +kernel
theorem dL_law_652 : decode cL_law 652 = .ok (.invokevirtual 75, 3) := by decide +kernel
theorem dL_law_655 : decode cL_law 655 = .ok (.aload_n 2, 1) := by decide +kernel
theorem dL_law_656 : decode cL_law 656 = .ok (.aload_n 0, 1) := by decide +kernel
theorem dL_law_657 : decode cL_law 657 = .ok (.iload_n 3, 1) := by decide +kernel
theorem dL_law_658 : decode cL_law 658 = .ok (.iconst 1, 1) := by decide +kernel
theorem dL_law_659 : decode cL_law 659 = .ok (.iadd, 1) := by decide +kernel
theorem dL_law_660 : decode cL_law 660 = .ok (.iaload, 1) := by decide +kernel
theorem dL_law_661 : decode cL_law 661 = .ok (.aload_n 0, 1) := by decide +kernel
theorem dL_law_662 : decode cL_law 662 = .ok (.iload_n 3, 1) := by decide +kernel
theorem dL_law_663 : decode cL_law 663 = .ok (.iconst 2, 1) := by decide +kernel
theorem dL_law_664 : decode cL_law 664 = .ok (.iadd, 1) := by decide +kernel
theorem dL_law_665 : decode cL_law 665 = .ok (.iaload, 1) := by decide +kernel
theorem dL_law_666 : decode cL_law 666 = .ok (.aload_n 0, 1) := by decide +kernel
theorem dL_law_667 : decode cL_law 667 = .ok (.iload_n 3, 1) := by decide +kernel
theorem dL_law_668 : decode cL_law 668 = .ok (.iconst 3, 1) := by decide +kernel
theorem dL_law_669 : decode cL_law 669 = .ok (.iadd, 1) := by decide +kernel
theorem dL_law_670 : decode cL_law 670 = .ok (.iaload, 1) := by decide +kernel
theorem dL_law_671 : decode cL_law 671 = .ok (.invokevirtual 78, 3) := by decide +kernel
theorem dL_law_674 : decode cL_law 674 = .ok (.if_icmp .eq 1018, 3) := by decide +kernel
theorem dL_law_677 : decode cL_law 677 = .ok (.iconst 0, 1) := by decide +kernel
theorem dL_law_678 : decode cL_law 678 = .ok (.ireturn, 1) := by decide +kernel
theorem dL_law_679 : decode cL_law 679 = .ok (.aload_n 1, 1) := by decide +kernel
theorem dL_law_680 : decode cL_law 680 = .ok (.aload_n 0, 1) := by decide +kernel
theorem dL_law_681 : decode cL_law 681 = .ok (.iload_n 3, 1) := by decide +kernel
theorem dL_law_682 : decode cL_law 682 = .ok (.iconst 1, 1) := by decide +kernel
theorem dL_law_683 : decode cL_law 683 = .ok (.iadd, 1) := by decide +kernel
theorem dL_law_684 : decode cL_law 684 = .ok (.iaload, 1) := by decide +kernel
theorem dL_law_685 : decode cL_law 685 = .ok (.aload_n 0, 1) := by decide +kernel
theorem dL_law_686 : decode cL_law 686 = .ok (.iload_n 3, 1) := by decide +kernel
theorem dL_law_687 : decode cL_law 687 = .ok (.iconst 2, 1) := by decide +kernel
theorem dL_law_688 : decode cL_law 688 = .ok (.iadd, 1) := by decide +kernel
theorem dL_law_689 : decode cL_law 689 = .ok (.iaload, 1) := by decide +kernel
theorem dL_law_690 : decode cL_law 690 = .ok (.aload_n 0, 1) := by decide +kernel
theorem dL_law_691 : decode cL_law 691 = .ok (.iload_n 3, 1) := by decide +kernel
theorem dL_law_692 : decode cL_law 692 = .ok (.iconst 3, 1) := by decide +kernel
theorem dL_law_693 : decode cL_law 693 = .ok (.iadd, 1) := by decide +kernel
theorem dL_law_694 : decode cL_law 694 = .ok (.iaload, 1) := by decide +kernel
theorem dL_law_695 : decode cL_law 695 = .ok (.invokevirtual 79, 3) := by decide +kernel
theorem dL_law_698 : decode cL_law 698 = .ok (.aload_n 2, 1) := by decide +kernel
theorem dL_law_699 : decode cL_law 699 = .ok (.aload_n 0, 1) := by decide +kernel
theorem dL_law_700 : decode cL_law 700 = .ok (.iload_n 3, 1) := by decide +kernel
theorem dL_law_701 : decode cL_law 701 = .ok (.iconst 1, 1) := by decide +kernel
theorem dL_law_702 : decode cL_law 702 = .ok (.iadd, 1) := by decide +kernel
theorem dL_law_703 : decode cL_law 703 = .ok (.iaload, 1) := by decide +kernel
theorem dL_law_704 : decode cL_law 704 = .ok (.aload_n 0, 1) := by decide +kernel
theorem dL_law_705 : decode cL_law 705 = .ok (.iload_n 3, 1) := by decide +kernel
theorem dL_law_706 : decode cL_law 706 = .ok (.iconst 2, 1) := by decide +kernel
theorem dL_law_707 : decode cL_law 707 = .ok (.iadd, 1) := by decide +kernel
theorem dL_law_708 : decode cL_law 708 = .ok (.iaload, 1) := by decide +kernel
theorem dL_law_709 : decode cL_law 709 = .ok (.aload_n 0, 1) := by decide +kernel
theorem dL_law_710 : decode cL_law 710 = .ok (.iload_n 3, 1) := by decide +kernel
theorem dL_law_711 : decode cL_law 711 = .ok (.iconst 3, 1) := by decide +kernel
theorem dL_law_712 : decode cL_law 712 = .ok (.iadd, 1) := by decide +kernel
theorem dL_law_713 : decode cL_law 713 = .ok (.iaload, 1) := by decide +kernel
theorem dL_law_714 : decode cL_law 714 = .ok (.invokevirtual 82, 3) := by decide +kernel
theorem dL_law_717 : decode cL_law 717 = .ok (.if_icmp .eq 975, 3) := by decide +kernel
theorem dL_law_720 : decode cL_law 720 = .ok (.iconst 0, 1) := by decide +kernel
theorem dL_law_721 : decode cL_law 721 = .ok (.ireturn, 1) := by decide +kernel
theorem dL_law_722 : decode cL_law 722 = .ok (.aload_n 1, 1) := by decide +kernel
theorem dL_law_723 : decode cL_law 723 = .ok (.aload_n 0, 1) := by decide +kernel
theorem dL_law_724 : decode cL_law 724 = .ok (.iload_n 3, 1) := by decide +kernel
theorem dL_law_725 : decode cL_law 725 = .ok (.iconst 1, 1) := by decide +kernel
theorem dL_law_726 : decode cL_law 726 = .ok (.iadd, 1) := by decide +kernel
theorem dL_law_727 : decode cL_law 727 = .ok (.iaload, 1) := by decide +kernel
theorem dL_law_728 : decode cL_law 728 = .ok (.invokevirtual 83, 3) := by decide +kernel
theorem dL_law_731 : decode cL_law 731 = .ok (.aload_n 2, 1) := by decide +kernel
theorem dL_law_732 : decode cL_law 732 = .ok (.aload_n 0, 1) := by decide +kernel
theorem dL_law_733 : decode cL_law 733 = .ok (.iload_n 3, 1) := by decide +kernel
theorem dL_law_734 : decode cL_law 734 = .ok (.iconst 1, 1) := by decide +kernel
theorem dL_law_735 : decode cL_law 735 = .ok (.iadd, 1) := by decide +kernel
theorem dL_law_736 : decode cL_law 736 = .ok (.iaload, 1) := by decide +kernel
theorem dL_law_737 : decode cL_law 737 = .ok (.invokevirtual 86, 3) := by decide +kernel
theorem dL_law_740 : decode cL_law 740 = .ok (.if_icmp .eq 952, 3) := by decide +kernel
theorem dL_law_743 : decode cL_law 743 = .ok (.iconst 0, 1) := by decide +kernel
theorem dL_law_744 : decode cL_law 744 = .ok (.ireturn, 1) := by decide +kernel
theorem dL_law_745 : decode cL_law 745 = .ok (.aload_n 1, 1) := by decide +kernel
theorem dL_law_746 : decode cL_law 746 = .ok (.aload_n 0, 1) := by decide +kernel
theorem dL_law_747 : decode cL_law 747 = .ok (.iload_n 3, 1) := by decide +kernel
theorem dL_law_748 : decode cL_law 748 = .ok (.iconst 1, 1) := by decide +kernel
theorem dL_law_749 : decode cL_law 749 = .ok (.iadd, 1) := by decide +kernel
theorem dL_law_750 : decode cL_law 750 = .ok (.iaload, 1) := by decide +kernel
theorem dL_law_751 : decode cL_law 751 = .ok (.invokevirtual 87, 3) := by decide +kernel
theorem dL_law_754 : decode cL_law 754 = .ok (.aload_n 2, 1) := by decide +kernel
theorem dL_law_755 : decode cL_law 755 = .ok (.aload_n 0, 1) := by decide +kernel
theorem dL_law_756 : decode cL_law 756 = .ok (.iload_n 3, 1) := by decide +kernel
theorem dL_law_757 : decode cL_law 757 = .ok (.iconst 1, 1) := by decide +kernel
theorem dL_law_758 : decode cL_law 758 = .ok (.iadd, 1) := by decide +kernel
theorem dL_law_759 : decode cL_law 759 = .ok (.iaload, 1) := by decide +kernel
theorem dL_law_760 : decode cL_law 760 = .ok (.invokevirtual 90, 3) := by decide +kernel
theorem dL_law_763 : decode cL_law 763 = .ok (.if_icmp .eq 929, 3) := by decide +kernel
theorem dL_law_766 : decode cL_law 766 = .ok (.iconst 0, 1) := by decide +kernel
theorem dL_law_767 : decode cL_law 767 = .ok (.ireturn, 1) := by decide +kernel
theorem dL_law_768 : decode cL_law 768 = .ok (.aload_n 1, 1) := by decide +kernel
theorem dL_law_769 : decode cL_law 769 = .ok (.aload_n 0, 1) := by decide +kernel
theorem dL_law_770 : decode cL_law 770 = .ok (.iload_n 3, 1) := by decide +kernel
theorem dL_law_771 : decode cL_law 771 = .ok (.iconst 1, 1) := by decide +kernel
theorem dL_law_772 : decode cL_law 772 = .ok (.iadd, 1) := by decide +kernel
theorem dL_law_773 : decode cL_law 773 = .ok (.iaload, 1) := by decide +kernel
theorem dL_law_774 : decode cL_law 774 = .ok (.aload_n 0, 1) := by decide +kernel
theorem dL_law_775 : decode cL_law 775 = .ok (.iload_n 3, 1) := by decide +kernel
theorem dL_law_776 : decode cL_law 776 = .ok (.iconst 2, 1) := by decide +kernel
theorem dL_law_777 : decode cL_law 777 = .ok (.iadd, 1) := by decide +kernel
theorem dL_law_778 : decode cL_law 778 = .ok (.iaload, 1) := by decide +kernel
theorem dL_law_779 : decode cL_law 779 = .ok (.invokevirtual 91, 3) := by decide +kernel
theorem dL_law_782 : decode cL_law 782 = .ok (.aload_n 2, 1) := by decide +kernel
theorem dL_law_783 : decode cL_law 783 = .ok (.aload_n 0, 1) := by decide +kernel
theorem dL_law_784 : decode cL_law 784 = .ok (.iload_n 3, 1) := by decide +kernel
theorem dL_law_785 : decode cL_law 785 = .ok (.iconst 1, 1) := by decide +kernel
theorem dL_law_786 : decode cL_law 786 = .ok (.iadd, 1) := by decide +kernel
theorem dL_law_787 : decode cL_law 787 = .ok (.iaload, 1) := by decide +kernel
theorem dL_law_788 : decode cL_law 788 = .ok (.aload_n 0, 1) := by decide +kernel
theorem dL_law_789 : decode cL_law 789 = .ok (.iload_n 3, 1) := by decide +kernel
theorem dL_law_790 : decode cL_law 790 = .ok (.iconst 2, 1) := by decide +kernel
theorem dL_law_791 : decode cL_law 791 = .ok (.iadd, 1) := by decide +kernel
theorem dL_law_792 : decode cL_law 792 = .ok (.iaload, 1) := by decide +kernel
theorem dL_law_793 : decode cL_law 793 = .ok (.invokevirtual 94, 3) := by decide +kernel
theorem dL_law_796 : decode cL_law 796 = .ok (.if_icmp .eq 896, 3) := by decide +kernel
theorem dL_law_799 : decode cL_law 799 = .ok (.iconst 0, 1) := by decide +kernel
theorem dL_law_800 : decode cL_law 800 = .ok (.ireturn, 1) := by decide +kernel
theorem dL_law_801 : decode cL_law 801 = .ok (.aload_n 1, 1) := by decide +kernel
theorem dL_law_802 : decode cL_law 802 = .ok (.aload_n 0, 1) := by decide +kernel
theorem dL_law_803 : decode cL_law 803 = .ok (.iload_n 3, 1) := by decide +kernel
theorem dL_law_804 : decode cL_law 804 = .ok (.iconst 1, 1) := by decide +kernel
theorem dL_law_805 : decode cL_law 805 = .ok (.iadd, 1) := by decide +kernel
theorem dL_law_806 : decode cL_law 806 = .ok (.iaload, 1) := by decide +kernel
theorem dL_law_807 : decode cL_law 807 = .ok (.aload_n 0, 1) := by decide +kernel
theorem dL_law_808 : decode cL_law 808 = .ok (.iload_n 3, 1) := by decide +kernel
theorem dL_law_809 : decode cL_law 809 = .ok (.iconst 2, 1) := by decide +kernel
theorem dL_law_810 : decode cL_law 810 = .ok (.iadd, 1) := by decide +kernel
theorem dL_law_811 : decode cL_law 811 = .ok (.iaload, 1) := by decide +kernel
theorem dL_law_812 : decode cL_law 812 = .ok (.invokevirtual 95, 3) := by decide +kernel
theorem dL_law_815 : decode cL_law 815 = .ok (.aload_n 2, 1) := by decide +kernel
theorem dL_law_816 : decode cL_law 816 = .ok (.aload_n 0, 1) := by decide +kernel
theorem dL_law_817 : decode cL_law 817 = .ok (.iload_n 3, 1) := by decide +kernel
theorem dL_law_818 : decode cL_law 818 = .ok (.iconst 1, 1) := by decide +kernel
theorem dL_law_819 : decode cL_law 819 = .ok (.iadd, 1) := by decide +kernel
theorem dL_law_820 : decode cL_law 820 = .ok (.iaload, 1) := by decide +kernel
theorem dL_law_821 : decode cL_law 821 = .ok (.aload_n 0, 1) := by decide +kernel
theorem dL_law_822 : decode cL_law 822 = .ok (.iload_n 3, 1) := by decide +kernel
theorem dL_law_823 : decode cL_law 823 = .ok (.iconst 2, 1) := by decide +kernel
theorem dL_law_824 : decode cL_law 824 = .ok (.iadd, 1) := by decide +kernel
theorem dL_law_825 : decode cL_law 825 = .ok (.iaload, 1) := by decide +kernel
theorem dL_law_826 : decode cL_law 826 = .ok (.invokevirtual 98, 3) := by decide +kernel
theorem dL_law_829 : decode cL_law 829 = .ok (.if_icmp .eq 863, 3) := by decide +kernel
theorem dL_law_832 : decode cL_law 832 = .ok (.iconst 0, 1) := by decide +kernel
theorem dL_law_833 : decode cL_law 833 = .ok (.ireturn, 1) := by decide +kernel
theorem dL_law_834 : decode cL_law 834 = .ok (.aload_n 1, 1) := by decide +kernel
theorem dL_law_835 : decode cL_law 835 = .ok (.aload_n 0, 1) := by decide +kernel
theorem dL_law_836 : decode cL_law 836 = .ok (.iload_n 3, 1) := by decide +kernel
theorem dL_law_837 : decode cL_law 837 = .ok (.iconst 1, 1) := by decide +kernel
theorem dL_law_838 : decode cL_law 838 = .ok (.iadd, 1) := by decide +kernel
theorem dL_law_839 : decode cL_law 839 = .ok (.iaload, 1) := by decide +kernel
theorem dL_law_840 : decode cL_law 840 = .ok (.aload_n 0, 1) := by decide +kernel
theorem dL_law_841 : decode cL_law 841 = .ok (.iload_n 3, 1) := by decide +kernel
theorem dL_law_842 : decode cL_law 842 = .ok (.iconst 2, 1) := by decide +kernel
theorem dL_law_843 : decode cL_law 843 = .ok (.iadd, 1) := by decide +kernel
theorem dL_law_844 : decode cL_law 844 = .ok (.iaload, 1) := by decide +kernel
theorem dL_law_845 : decode cL_law 845 = .ok (.invokevirtual 99, 3) := by decide +kernel
theorem dL_law_848 : decode cL_law 848 = .ok (.aload_n 2, 1) := by decide +kernel
theorem dL_law_849 : decode cL_law 849 = .ok (.aload_n 0, 1) := by decide +kernel
theorem dL_law_850 : decode cL_law 850 = .ok (.iload_n 3, 1) := by decide +kernel
theorem dL_law_851 : decode cL_law 851 = .ok (.iconst 1, 1) := by decide +kernel
theorem dL_law_852 : decode cL_law 852 = .ok (.iadd, 1) := by decide +kernel
theorem dL_law_853 : decode cL_law 853 = .ok (.iaload, 1) := by decide +kernel
theorem dL_law_854 : decode cL_law 854 = .ok (.aload_n 0, 1) := by decide +kernel
theorem dL_law_855 : decode cL_law 855 = .ok (.iload_n 3, 1) := by decide +kernel
theorem dL_law_856 : decode cL_law 856 = .ok (.iconst 2, 1) := by decide +kernel
theorem dL_law_857 : decode cL_law 857 = .ok (.iadd, 1) := by decide +kernel
theorem dL_law_858 : decode cL_law 858 = .ok (.iaload, 1) := by decide +kernel
theorem dL_law_859 : decode cL_law 859 = .ok (.invokevirtual 102, 3) := by decide +kernel
theorem dL_law_862 : decode cL_law 862 = .ok (.if_icmp .eq 830, 3) := by decide +kernel
theorem dL_law_865 : decode cL_law 865 = .ok (.iconst 0, 1) := by decide +kernel
theorem dL_law_866 : decode cL_law 866 = .ok (.ireturn, 1) := by decide +kernel
theorem dL_law_867 : decode cL_law 867 = .ok (.aload_n 1, 1) := by decide +kernel
theorem dL_law_868 : decode cL_law 868 = .ok (.aload_n 0, 1) := by decide +kernel
theorem dL_law_869 : decode cL_law 869 = .ok (.iload_n 3, 1) := by decide +kernel
theorem dL_law_870 : decode cL_law 870 = .ok (.iconst 1, 1) := by decide +kernel
theorem dL_law_871 : decode cL_law 871 = .ok (.iadd, 1) := by decide +kernel
theorem dL_law_872 : decode cL_law 872 = .ok (.iaload, 1) := by decide +kernel
theorem dL_law_873 : decode cL_law 873 = .ok (.aload_n 0, 1) := by decide +kernel
theorem dL_law_874 : decode cL_law 874 = .ok (.iload_n 3, 1) := by decide +kernel
theorem dL_law_875 : decode cL_law 875 = .ok (.iconst 2, 1) := by decide +kernel
theorem dL_law_876 : decode cL_law 876 = .ok (.iadd, 1) := by decide +kernel
theorem dL_law_877 : decode cL_law 877 = .ok (.iaload, 1) := by decide +kernel
theorem dL_law_878 : decode cL_law 878 = .ok (.invokevirtual 103, 3) := by decide +kernel
theorem dL_law_881 : decode cL_law 881 = .ok (.aload_n 2, 1) := by decide +kernel
theorem dL_law_882 : decode cL_law 882 = .ok (.aload_n 0, 1) := by decide +kernel
theorem dL_law_883 : decode cL_law 883 = .ok (.iload_n 3, 1) := by decide +kernel
theorem dL_law_884 : decode cL_law 884 = .ok (.iconst 1, 1) := by decide +kernel
theorem dL_law_885 : decode cL_law 885 = .ok (.iadd, 1) := by decide +kernel
theorem dL_law_886 : decode cL_law 886 = .ok (.iaload, 1) := by decide +kernel
theorem dL_law_887 : decode cL_law 887 = .ok (.aload_n 0, 1) := by decide +kernel
theorem dL_law_888 : decode cL_law 888 = .ok (.iload_n 3, 1) := by decide +kernel
theorem dL_law_889 : decode cL_law 889 = .ok (.iconst 2, 1) := by decide +kernel
theorem dL_law_890 : decode cL_law 890 = .ok (.iadd, 1) := by decide +kernel
theorem dL_law_891 : decode cL_law 891 = .ok (.iaload, 1) := by decide +kernel
theorem dL_law_892 : decode cL_law 892 = .ok (.invokevirtual 106, 3) := by decide +kernel
theorem dL_law_895 : decode cL_law 895 = .ok (.if_icmp .eq 797, 3) := by decide +kernel
theorem dL_law_898 : decode cL_law 898 = .ok (.iconst 0, 1) := by decide +kernel
theorem dL_law_899 : decode cL_law 899 = .ok (.ireturn, 1) := by decide +kernel
theorem dL_law_900 : decode cL_law 900 = .ok (.aload_n 1, 1) := by decide +kernel
theorem dL_law_901 : decode cL_law 901 = .ok (.aload_n 0, 1) := by decide +kernel
theorem dL_law_902 : decode cL_law 902 = .ok (.iload_n 3, 1) := by decide +kernel
theorem dL_law_903 : decode cL_law 903 = .ok (.iconst 1, 1) := by decide +kernel
theorem dL_law_904 : decode cL_law 904 = .ok (.iadd, 1) := by decide +kernel
theorem dL_law_905 : decode cL_law 905 = .ok (.iaload, 1) := by decide +kernel
theorem dL_law_906 : decode cL_law 906 = .ok (.aload_n 0, 1) := by decide +kernel
theorem dL_law_907 : decode cL_law 907 = .ok (.iload_n 3, 1) := by decide +kernel
theorem dL_law_908 : decode cL_law 908 = .ok (.iconst 2, 1) := by decide +kernel
theorem dL_law_909 : decode cL_law 909 = .ok (.iadd, 1) := by decide +kernel
theorem dL_law_910 : decode cL_law 910 = .ok (.iaload, 1) := by decide +kernel
theorem dL_law_911 : decode cL_law 911 = .ok (.aload_n 0, 1) := by decide +kernel
theorem dL_law_912 : decode cL_law 912 = .ok (.iload_n 3, 1) := by decide +kernel
theorem dL_law_913 : decode cL_law 913 = .ok (.iconst 3, 1) := by decide +kernel
theorem dL_law_914 : decode cL_law 914 = .ok (.iadd, 1) := by decide +kernel
theorem dL_law_915 : decode cL_law 915 = .ok (.iaload, 1) := by decide +kernel
theorem dL_law_916 : decode cL_law 916 = .ok (.invokevirtual 107, 3) := by decide +kernel
theorem dL_law_919 : decode cL_law 919 = .ok (.aload_n 2, 1) := by decide +kernel
theorem dL_law_920 : decode cL_law 920 = .ok (.aload_n 0, 1) := by decide +kernel
theorem dL_law_921 : decode cL_law 921 = .ok (.iload_n 3, 1) := by decide +kernel
theorem dL_law_922 : decode cL_law 922 = .ok (.iconst 1, 1) := by decide +kernel
theorem dL_law_923 : decode cL_law 923 = .ok (.iadd, 1) := by decide +kernel
theorem dL_law_924 : decode cL_law 924 = .ok (.iaload, 1) := by decide +kernel
theorem dL_law_925 : decode cL_law 925 = .ok (.aload_n 0, 1) := by decide +kernel
theorem dL_law_926 : decode cL_law 926 = .ok (.iload_n 3, 1) := by decide +kernel
theorem dL_law_927 : decode cL_law 927 = .ok (.iconst 2, 1) := by decide +kernel
theorem dL_law_928 : decode cL_law 928 = .ok (.iadd, 1) := by decide +kernel
theorem dL_law_929 : decode cL_law 929 = .ok (.iaload, 1) := by decide +kernel
theorem dL_law_930 : decode cL_law 930 = .ok (.aload_n 0, 1) := by decide +kernel
theorem dL_law_931 : decode cL_law 931 = .ok (.iload_n 3, 1) := by decide +kernel
theorem dL_law_932 : decode cL_law 932 = .ok (.iconst 3, 1) := by decide +kernel
theorem dL_law_933 : decode cL_law 933 = .ok (.iadd, 1) := by decide +kernel
theorem dL_law_934 : decode cL_law 934 = .ok (.iaload, 1) := by decide +kernel
theorem dL_law_935 : decode cL_law 935 = .ok (.invokevirtual 110, 3) := by decide +kernel
theorem dL_law_938 : decode cL_law 938 = .ok (.if_icmp .eq 754, 3) := by decide +kernel
theorem dL_law_941 : decode cL_law 941 = .ok (.iconst 0, 1) := by decide +kernel
theorem dL_law_942 : decode cL_law 942 = .ok (.ireturn, 1) := by decide +kernel
theorem dL_law_943 : decode cL_law 943 = .ok (.aload_n 1, 1) := by decide +kernel
theorem dL_law_944 : decode cL_law 944 = .ok (.aload_n 0, 1) := by decide +kernel
theorem dL_law_945 : decode cL_law 945 = .ok (.iload_n 3, 1) := by decide +kernel
theorem dL_law_946 : decode cL_law 946 = .ok (.iconst 1, 1) := by decide +kernel
theorem dL_law_947 : decode cL_law 947 = .ok (.iadd, 1) := by decide +kernel
theorem dL_law_948 : decode cL_law 948 = .ok (.iaload, 1) := by decide +kernel
theorem dL_law_949 : decode cL_law 949 = .ok (.aload_n 0, 1) := by decide +kernel
theorem dL_law_950 : decode cL_law 950 = .ok (.iload_n 3, 1) := by decide +kernel
theorem dL_law_951 : decode cL_law 951 = .ok (.iconst 2, 1) := by decide +kernel
theorem dL_law_952 : decode cL_law 952 = .ok (.iadd, 1) := by decide +kernel
theorem dL_law_953 : decode cL_law 953 = .ok (.iaload, 1) := by decide +kernel
theorem dL_law_954 : decode cL_law 954 = .ok (.invokevirtual 111, 3) := by decide +kernel
theorem dL_law_957 : decode cL_law 957 = .ok (.aload_n 2, 1) := by decide +kernel
theorem dL_law_958 : decode cL_law 958 = .ok (.aload_n 0, 1) := by decide +kernel
theorem dL_law_959 : decode cL_law 959 = .ok (.iload_n 3, 1) := by decide +kernel
theorem dL_law_960 : decode cL_law 960 = .ok (.iconst 1, 1) := by decide +kernel
theorem dL_law_961 : decode cL_law 961 = .ok (.iadd, 1) := by decide +kernel
theorem dL_law_962 : decode cL_law 962 = .ok (.iaload, 1) := by decide +kernel
theorem dL_law_963 : decode cL_law 963 = .ok (.aload_n 0, 1) := by decide +kernel
theorem dL_law_964 : decode cL_law 964 = .ok (.iload_n 3, 1) := by decide +kernel
theorem dL_law_965 : decode cL_law 965 = .ok (.iconst 2, 1) := by decide +kernel
theorem dL_law_966 : decode cL_law 966 = .ok (.iadd, 1) := by decide +kernel
theorem dL_law_967 : decode cL_law 967 = .ok (.iaload, 1) := by decide +kernel
theorem dL_law_968 : decode cL_law 968 = .ok (.invokevirtual 114, 3) := by decide +kernel
theorem dL_law_971 : decode cL_law 971 = .ok (.if_icmp .eq 721, 3) := by decide +kernel
theorem dL_law_974 : decode cL_law 974 = .ok (.iconst 0, 1) := by decide +kernel
theorem dL_law_975 : decode cL_law 975 = .ok (.ireturn, 1) := by decide +kernel
theorem dL_law_976 : decode cL_law 976 = .ok (.aload_n 1, 1) := by decide +kernel
theorem dL_law_977 : decode cL_law 977 = .ok (.aload_n 0, 1) := by decide +kernel
theorem dL_law_978 : decode cL_law 978 = .ok (.iload_n 3, 1) := by decide +kernel
theorem dL_law_979 : decode cL_law 979 = .ok (.iconst 1, 1) := by decide +kernel
theorem dL_law_980 : decode cL_law 980 = .ok (.iadd, 1) := by decide +kernel
theorem dL_law_981 : decode cL_law 981 = .ok (.iaload, 1) := by decide +kernel
theorem dL_law_982 : decode cL_law 982 = .ok (.aload_n 0, 1) := by decide +kernel
theorem dL_law_983 : decode cL_law 983 = .ok (.iload_n 3, 1) := by decide +kernel
theorem dL_law_984 : decode cL_law 984 = .ok (.iconst 2, 1) := by decide +kernel
theorem dL_law_985 : decode cL_law 985 = .ok (.iadd, 1) := by decide +kernel
theorem dL_law_986 : decode cL_law 986 = .ok (.iaload, 1) := by decide +kernel
theorem dL_law_987 : decode cL_law 987 = .ok (.aload_n 0, 1) := by decide +kernel
theorem dL_law_988 : decode cL_law 988 = .ok (.iload_n 3, 1) := by decide +kernel
theorem dL_law_989 : decode cL_law 989 = .ok (.iconst 3, 1) := by decide +kernel
theorem dL_law_990 : decode cL_law 990 = .ok (.iadd, 1) := by decide +kernel
theorem dL_law_991 : decode cL_law 991 = .ok (.iaload, 1) := by decide +kernel
theorem dL_law_992 : decode cL_law 992 = .ok (.aload_n 0, 1) := by decide +kernel
theorem dL_law_993 : decode cL_law 993 = .ok (.iload_n 3, 1) := by decide +kernel
theorem dL_law_994 : decode cL_law 994 = .ok (.iconst 4, 1) := by decide +kernel
theorem dL_law_995 : decode cL_law 995 = .ok (.iadd, 1) := by decide +kernel
theorem dL_law_996 : decode cL_law 996 = .ok (.iaload, 1) := by decide +kernel
theorem dL_law_997 : decode cL_law 997 = .ok (.invokevirtual 115, 3) := by decide +kernel
theorem dL_law_1000 : decode cL_law 1000 = .ok (.aload_n 2, 1) := by decide +kernel
theorem dL_law_1001 : decode cL_law 1001 = .ok (.aload_n 0, 1) := by decide +kernel
theorem dL_law_1002 : decode cL_law 1002 = .ok (.iload_n 3, 1) := by decide +kernel
theorem dL_law_1003 : decode cL_law 1003 = .ok (.iconst 1, 1) := by decide +kernel
theorem dL_law_1004 : decode cL_law 1004 = .ok (.iadd, 1) := by decide +kernel
theorem dL_law_1005 : decode cL_law 1005 = .ok (.iaload, 1) := by decide +kernel
theorem dL_law_1006 : decode cL_law 1006 = .ok (.aload_n 0, 1) := by decide +kernel
theorem dL_law_1007 : decode cL_law 1007 = .ok (.iload_n 3, 1) := by decide +kernel
theorem dL_law_1008 : decode cL_law 1008 = .ok (.iconst 2, 1) := by decide +kernel
theorem dL_law_1009 : decode cL_law 1009 = .ok (.iadd, 1) := by decide +kernel
theorem dL_law_1010 : decode cL_law 1010 = .ok (.iaload, 1) := by decide +kernel
theorem dL_law_1011 : decode cL_law 1011 = .ok (.aload_n 0, 1) := by decide +kernel
theorem dL_law_1012 : decode cL_law 1012 = .ok (.iload_n 3, 1) := by decide +kernel
theorem dL_law_1013 : decode cL_law 1013 = .ok (.iconst 3, 1) := by decide +kernel
theorem dL_law_1014 : decode cL_law 1014 = .ok (.iadd, 1) := by decide +kernel
theorem dL_law_1015 : decode cL_law 1015 = .ok (.iaload, 1) := by decide +kernel
theorem dL_law_1016 : decode cL_law 1016 = .ok (.aload_n 0, 1) := by decide +kernel
theorem dL_law_1017 : decode cL_law 1017 = .ok (.iload_n 3, 1) := by decide +kernel
theorem dL_law_1018 : decode cL_law 1018 = .ok (.iconst 4, 1) := by decide +kernel
theorem dL_law_1019 : decode cL_law 1019 = .ok (.iadd, 1) := by decide +kernel
theorem dL_law_1020 : decode cL_law 1020 = .ok (.iaload, 1) := by decide +kernel
theorem dL_law_1021 : decode cL_law 1021 = .ok (.invokevirtual 119, 3) := by decide +kernel
theorem dL_law_1024 : decode cL_law 1024 = .ok (.if_icmp .eq 668, 3) := by decide +kernel
theorem dL_law_1027 : decode cL_law 1027 = .ok (.iconst 0, 1) := by decide +kernel
theorem dL_law_1028 : decode cL_law 1028 = .ok (.ireturn, 1) := by decide +kernel
theorem dL_law_1029 : decode cL_law 1029 = .ok (.aload_n 1, 1) := by decide +kernel
theorem dL_law_1030 : decode cL_law 1030 = .ok (.aload_n 0, 1) := by decide +kernel
theorem dL_law_1031 : decode cL_law 1031 = .ok (.iload_n 3, 1) := by decide +kernel
theorem dL_law_1032 : decode cL_law 1032 = .ok (.iconst 1, 1) := by decide +kernel
theorem dL_law_1033 : decode cL_law 1033 = .ok (.iadd, 1) := by decide +kernel
theorem dL_law_1034 : decode cL_law 1034 = .ok (.iaload, 1) := by decide +kernel
theorem dL_law_1035 : decode cL_law 1035 = .ok (.aload_n 0, 1) := by decide +kernel
theorem dL_law_1036 : decode cL_law 1036 = .ok (.iload_n 3, 1) := by decide +kernel
theorem dL_law_1037 : decode cL_law 1037 = .ok (.iconst 2, 1) := by decide +kernel
theorem dL_law_1038 : decode cL_law 1038 = .ok (.iadd, 1) := by decide +kernel
theorem dL_law_1039 : decode cL_law 1039 = .ok (.iaload, 1) := by decide +kernel
theorem dL_law_1040 : decode cL_law 1040 = .ok (.invokevirtual 120, 3) := by decide +kernel
theorem dL_law_1043 : decode cL_law 1043 = .ok (.aload_n 2, 1) := by decide +kernel
theorem dL_law_1044 : decode cL_law 1044 = .ok (.aload_n 0, 1) := by decide +kernel
theorem dL_law_1045 : decode cL_law 1045 = .ok (.iload_n 3, 1) := by decide +kernel
theorem dL_law_1046 : decode cL_law 1046 = .ok (.iconst 1, 1) := by decide +kernel
theorem dL_law_1047 : decode cL_law 1047 = .ok (.iadd, 1) := by decide +kernel
theorem dL_law_1048 : decode cL_law 1048 = .ok (.iaload, 1) := by decide +kernel
theorem dL_law_1049 : decode cL_law 1049 = .ok (.aload_n 0, 1) := by decide +kernel
theorem dL_law_1050 : decode cL_law 1050 = .ok (.iload_n 3, 1) := by decide +kernel
theorem dL_law_1051 : decode cL_law 1051 = .ok (.iconst 2, 1) := by decide +kernel
theorem dL_law_1052 : decode cL_law 1052 = .ok (.iadd, 1) := by decide +kernel
theorem dL_law_1053 : decode cL_law 1053 = .ok (.iaload, 1) := by decide +kernel
theorem dL_law_1054 : decode cL_law 1054 = .ok (.invokevirtual 123, 3) := by decide +kernel
theorem dL_law_1057 : decode cL_law 1057 = .ok (.if_icmp .eq 635, 3) := by decide +kernel
theorem dL_law_1060 : decode cL_law 1060 = .ok (.iconst 0, 1) := by decide +kernel
theorem dL_law_1061 : decode cL_law 1061 = .ok (.ireturn, 1) := by decide +kernel
theorem dL_law_1062 : decode cL_law 1062 = .ok (.aload_n 1, 1) := by decide +kernel
theorem dL_law_1063 : decode cL_law 1063 = .ok (.aload_n 0, 1) := by decide +kernel
theorem dL_law_1064 : decode cL_law 1064 = .ok (.iload_n 3, 1) := by decide +kernel
theorem dL_law_1065 : decode cL_law 1065 = .ok (.iconst 1, 1) := by decide +kernel
theorem dL_law_1066 : decode cL_law 1066 = .ok (.iadd, 1) := by decide +kernel
theorem dL_law_1067 : decode cL_law 1067 = .ok (.iaload, 1) := by decide +kernel
theorem dL_law_1068 : decode cL_law 1068 = .ok (.aload_n 0, 1) := by decide +kernel
theorem dL_law_1069 : decode cL_law 1069 = .ok (.iload_n 3, 1) := by decide +kernel
theorem dL_law_1070 : decode cL_law 1070 = .ok (.iconst 2, 1) := by decide +kernel
theorem dL_law_1071 : decode cL_law 1071 = .ok (.iadd, 1) := by decide +kernel
theorem dL_law_1072 : decode cL_law 1072 = .ok (.iaload, 1) := by decide +kernel
theorem dL_law_1073 : decode cL_law 1073 = .ok (.invokevirtual 124, 3) := by decide +kernel
theorem dL_law_1076 : decode cL_law 1076 = .ok (.aload_n 2, 1) := by decide +kernel
theorem dL_law_1077 : decode cL_law 1077 = .ok (.aload_n 0, 1) := by decide +kernel
theorem dL_law_1078 : decode cL_law 1078 = .ok (.iload_n 3, 1) := by decide +kernel
theorem dL_law_1079 : decode cL_law 1079 = .ok (.iconst 1, 1) := by decide +kernel
theorem dL_law_1080 : decode cL_law 1080 = .ok (.iadd, 1) := by decide +kernel
theorem dL_law_1081 : decode cL_law 1081 = .ok (.iaload, 1) := by decide +kernel
theorem dL_law_1082 : decode cL_law 1082 = .ok (.aload_n 0, 1) := by decide +kernel
theorem dL_law_1083 : decode cL_law 1083 = .ok (.iload_n 3, 1) := by decide +kernel
theorem dL_law_1084 : decode cL_law 1084 = .ok (.iconst 2, 1) := by decide +kernel
theorem dL_law_1085 : decode cL_law 1085 = .ok (.iadd, 1) := by decide +kernel
theorem dL_law_1086 : decode cL_law 1086 = .ok (.iaload, 1) := by decide +kernel
theorem dL_law_1087 : decode cL_law 1087 = .ok (.invokevirtual 127, 3) := by decide +kernel
theorem dL_law_1090 : decode cL_law 1090 = .ok (.if_icmp .eq 602, 3) := by decide +kernel
theorem dL_law_1093 : decode cL_law 1093 = .ok (.iconst 0, 1) := by decide +kernel
theorem dL_law_1094 : decode cL_law 1094 = .ok (.ireturn, 1) := by decide +kernel
theorem dL_law_1095 : decode cL_law 1095 = .ok (.aload_n 1, 1) := by decide +kernel
theorem dL_law_1096 : decode cL_law 1096 = .ok (.invokevirtual 128, 3) := by decide +kernel
theorem dL_law_1099 : decode cL_law 1099 = .ok (.aload_n 2, 1) := by decide +kernel
theorem dL_law_1100 : decode cL_law 1100 = .ok (.invokevirtual 131, 3) := by decide +kernel
theorem dL_law_1103 : decode cL_law 1103 = .ok (.if_icmp .eq 589, 3) := by decide +kernel
theorem dL_law_1106 : decode cL_law 1106 = .ok (.iconst 0, 1) := by decide +kernel
theorem dL_law_1107 : decode cL_law 1107 = .ok (.ireturn, 1) := by decide +kernel
theorem dL_law_1108 : decode cL_law 1108 = .ok (.aload_n 1, 1) := by decide +kernel
theorem dL_law_1109 : decode cL_law 1109 = .ok (.aload_n 0, 1) := by decide +kernel
theorem dL_law_1110 : decode cL_law 1110 = .ok (.iload_n 3, 1) := by decide +kernel
theorem dL_law_1111 : decode cL_law 1111 = .ok (.iconst 1, 1) := by decide +kernel
theorem dL_law_1112 : decode cL_law 1112 = .ok (.iadd, 1) := by decide +kernel
theorem dL_law_1113 : decode cL_law 1113 = .ok (.iaload, 1) := by decide +kernel
theorem dL_law_1114 : decode cL_law 1114 = .ok (.invokevirtual 132, 3) := by decide +kernel
theorem dL_law_1117 : decode cL_law 1117 = .ok (.aload_n 2, 1) := by decide +kernel
theorem dL_law_1118 : decode cL_law 1118 = .ok (.aload_n 0, 1) := by decide +kernel
theorem dL_law_1119 : decode cL_law 1119 = .ok (.iload_n 3, 1) := by decide +kernel
theorem dL_law_1120 : decode cL_law 1120 = .ok (.iconst 1, 1) := by decide +kernel
theorem dL_law_1121 : decode cL_law 1121 = .ok (.iadd, 1) := by decide +kernel
theorem dL_law_1122 : decode cL_law 1122 = .ok (.iaload, 1) := by decide +kernel
theorem dL_law_1123 : decode cL_law 1123 = .ok (.invokevirtual 135, 3) := by decide +kernel
theorem dL_law_1126 : decode cL_law 1126 = .ok (.if_icmp .eq 566, 3) := by decide +kernel
theorem dL_law_1129 : decode cL_law 1129 = .ok (.iconst 0, 1) := by decide +kernel
theorem dL_law_1130 : decode cL_law 1130 = .ok (.ireturn, 1) := by decide +kernel
theorem dL_law_1131 : decode cL_law 1131 = .ok (.aload_n 1, 1) := by decide +kernel
theorem dL_law_1132 : decode cL_law 1132 = .ok (.invokevirtual 136, 3) := by decide +kernel
theorem dL_law_1135 : decode cL_law 1135 = .ok (.aload_n 2, 1) := by decide +kernel
theorem dL_law_1136 : decode cL_law 1136 = .ok (.invokevirtual 139, 3) := by decide +kernel
theorem dL_law_1139 : decode cL_law 1139 = .ok (.if_icmp .eq 553, 3) := by decide +kernel
theorem dL_law_1142 : decode cL_law 1142 = .ok (.iconst 0, 1) := by decide +kernel
theorem dL_law_1143 : decode cL_law 1143 = .ok (.ireturn, 1) := by decide +kernel
theorem dL_law_1144 : decode cL_law 1144 = .ok (.aload_n 1, 1) := by decide +kernel
theorem dL_law_1145 : decode cL_law 1145 = .ok (.invokevirtual 140, 3) := by decide +kernel
theorem dL_law_1148 : decode cL_law 1148 = .ok (.aload_n 2, 1) := by decide +kernel
theorem dL_law_1149 : decode cL_law 1149 = .ok (.invokevirtual 143, 3) := by decide +kernel
theorem dL_law_1152 : decode cL_law 1152 = .ok (.if_icmp .eq 540, 3) := by decide +kernel
theorem dL_law_1155 : decode cL_law 1155 = .ok (.iconst 0, 1) := by decide +kernel
theorem dL_law_1156 : decode cL_law 1156 = .ok (.ireturn, 1) := by decide +kernel
theorem dL_law_1157 : decode cL_law 1157 = .ok (.aload_n 1, 1) := by decide +kernel
theorem dL_law_1158 : decode cL_law 1158 = .ok (.invokevirtual 144, 3) := by decide +kernel
theorem dL_law_1161 : decode cL_law 1161 = .ok (.aload_n 2, 1) := by decide +kernel
theorem dL_law_1162 : decode cL_law 1162 = .ok (.invokevirtual 147, 3) := by decide +kernel
theorem dL_law_1165 : decode cL_law 1165 = .ok (.if_icmp .eq 527, 3) := by decide +kernel
theorem dL_law_1168 : decode cL_law 1168 = .ok (.iconst 0, 1) := by decide +kernel
theorem dL_law_1169 : decode cL_law 1169 = .ok (.ireturn, 1) := by decide +kernel
theorem dL_law_1170 : decode cL_law 1170 = .ok (.aload_n 1, 1) := by decide +kernel
theorem dL_law_1171 : decode cL_law 1171 = .ok (.aload_n 0, 1) := by decide +kernel
theorem dL_law_1172 : decode cL_law 1172 = .ok (.iload_n 3, 1) := by decide +kernel
theorem dL_law_1173 : decode cL_law 1173 = .ok (.iconst 1, 1) := by decide +kernel
theorem dL_law_1174 : decode cL_law 1174 = .ok (.iadd, 1) := by decide +kernel
theorem dL_law_1175 : decode cL_law 1175 = .ok (.iaload, 1) := by decide +kernel
theorem dL_law_1176 : decode cL_law 1176 = .ok (.invokevirtual 148, 3) := by decide +kernel
theorem dL_law_1179 : decode cL_law 1179 = .ok (.aload_n 2, 1) := by decide +kernel
theorem dL_law_1180 : decode cL_law 1180 = .ok (.aload_n 0, 1) := by decide +kernel
theorem dL_law_1181 : decode cL_law 1181 = .ok (.iload_n 3, 1) := by decide +kernel
theorem dL_law_1182 : decode cL_law 1182 = .ok (.iconst 1, 1) := by decide +kernel
theorem dL_law_1183 : decode cL_law 1183 = .ok (.iadd, 1) := by decide +kernel
theorem dL_law_1184 : decode cL_law 1184 = .ok (.iaload, 1) := by decide +kernel
theorem dL_law_1185 : decode cL_law 1185 = .ok (.invokevirtual 151, 3) := by decide +kernel
theorem dL_law_1188 : decode cL_law 1188 = .ok (.if_icmp .eq 504, 3) := by decide +kernel
theorem dL_law_1191 : decode cL_law 1191 = .ok (.iconst 0, 1) := by decide +kernel
theorem dL_law_1192 : decode cL_law 1192 = .ok (.ireturn, 1) := by decide +kernel
theorem dL_law_1193 : decode cL_law 1193 = .ok (.aload_n 1, 1) := by decide +kernel
theorem dL_law_1194 : decode cL_law 1194 = .ok (.invokevirtual 152, 3) := by decide +kernel
theorem dL_law_1197 : decode cL_law 1197 = .ok (.aload_n 2, 1) := by decide +kernel
theorem dL_law_1198 : decode cL_law 1198 = .ok (.invokevirtual 155, 3) := by decide +kernel
theorem dL_law_1201 : decode cL_law 1201 = .ok (.if_icmp .eq 491, 3) := by decide +kernel
theorem dL_law_1204 : decode cL_law 1204 = .ok (.iconst 0, 1) := by decide +kernel
theorem dL_law_1205 : decode cL_law 1205 = .ok (.ireturn, 1) := by decide +kernel
theorem dL_law_1206 : decode cL_law 1206 = .ok (.aload_n 1, 1) := by decide +kernel
theorem dL_law_1207 : decode cL_law 1207 = .ok (.invokevirtual 156, 3) := by decide +kernel
theorem dL_law_1210 : decode cL_law 1210 = .ok (.aload_n 2, 1) := by decide +kernel
theorem dL_law_1211 : decode cL_law 1211 = .ok (.invokevirtual 159, 3) := by decide +kernel
theorem dL_law_1214 : decode cL_law 1214 = .ok (.if_icmp .eq 478, 3) := by decide +kernel
theorem dL_law_1217 : decode cL_law 1217 = .ok (.iconst 0, 1) := by decide +kernel
theorem dL_law_1218 : decode cL_law 1218 = .ok (.ireturn, 1) := by decide +kernel
theorem dL_law_1219 : decode cL_law 1219 = .ok (.aload_n 1, 1) := by decide +kernel
theorem dL_law_1220 : decode cL_law 1220 = .ok (.invokevirtual 160, 3) := by decide +kernel
theorem dL_law_1223 : decode cL_law 1223 = .ok (.aload_n 2, 1) := by decide +kernel
theorem dL_law_1224 : decode cL_law 1224 = .ok (.invokevirtual 163, 3) := by decide +kernel
theorem dL_law_1227 : decode cL_law 1227 = .ok (.if_icmp .eq 465, 3) := by decide +kernel
theorem dL_law_1230 : decode cL_law 1230 = .ok (.iconst 0, 1) := by decide +kernel
theorem dL_law_1231 : decode cL_law 1231 = .ok (.ireturn, 1) := by decide +kernel
theorem dL_law_1232 : decode cL_law 1232 = .ok (.aload_n 1, 1) := by decide +kernel
theorem dL_law_1233 : decode cL_law 1233 = .ok (.aload_n 0, 1) := by decide +kernel
theorem dL_law_1234 : decode cL_law 1234 = .ok (.iload_n 3, 1) := by decide +kernel
theorem dL_law_1235 : decode cL_law 1235 = .ok (.iconst 1, 1) := by decide +kernel
theorem dL_law_1236 : decode cL_law 1236 = .ok (.iadd, 1) := by decide +kernel
theorem dL_law_1237 : decode cL_law 1237 = .ok (.iaload, 1) := by decide +kernel
theorem dL_law_1238 : decode cL_law 1238 = .ok (.invokevirtual 164, 3) := by decide +kernel
theorem dL_law_1241 : decode cL_law 1241 = .ok (.aload_n 2, 1) := by decide +kernel
theorem dL_law_1242 : decode cL_law 1242 = .ok (.aload_n 0, 1) := by decide +kernel
theorem dL_law_1243 : decode cL_law 1243 = .ok (.iload_n 3, 1) := by decide +kernel
theorem dL_law_1244 : decode cL_law 1244 = .ok (.iconst 1, 1) := by decide +kernel
theorem dL_law_1245 : decode cL_law 1245 = .ok (.iadd, 1) := by decide +kernel
theorem dL_law_1246 : decode cL_law 1246 = .ok (.iaload, 1) := by decide +kernel
theorem dL_law_1247 : decode cL_law 1247 = .ok (.invokevirtual 167, 3) := by decide +kernel
theorem dL_law_1250 : decode cL_law 1250 = .ok (.if_icmp .eq 442, 3) := by decide +kernel
theorem dL_law_1253 : decode cL_law 1253 = .ok (.iconst 0, 1) := by decide +kernel
theorem dL_law_1254 : decode cL_law 1254 = .ok (.ireturn, 1) := by decide +kernel
theorem dL_law_1255 : decode cL_law 1255 = .ok (.aload_n 1, 1) := by decide +kernel
theorem dL_law_1256 : decode cL_law 1256 = .ok (.aload_n 0, 1) := by decide +kernel
theorem dL_law_1257 : decode cL_law 1257 = .ok (.iload_n 3, 1) := by decide +kernel
theorem dL_law_1258 : decode cL_law 1258 = .ok (.iconst 1, 1) := by decide +kernel
theorem dL_law_1259 : decode cL_law 1259 = .ok (.iadd, 1) := by decide +kernel
theorem dL_law_1260 : decode cL_law 1260 = .ok (.iaload, 1) := by decide +kernel
theorem dL_law_1261 : decode cL_law 1261 = .ok (.aload_n 0, 1) := by decide +kernel
theorem dL_law_1262 : decode cL_law 1262 = .ok (.iload_n 3, 1) := by decide +kernel
theorem dL_law_1263 : decode cL_law 1263 = .ok (.iconst 2, 1) := by decide +kernel
theorem dL_law_1264 : decode cL_law 1264 = .ok (.iadd, 1) := by decide +kernel
theorem dL_law_1265 : decode cL_law 1265 = .ok (.iaload, 1) := by decide +kernel
theorem dL_law_1266 : decode cL_law 1266 = .ok (.invokevirtual 168, 3) := by decide +kernel
theorem dL_law_1269 : decode cL_law 1269 = .ok (.aload_n 2, 1) := by decide +kernel
theorem dL_law_1270 : decode cL_law 1270 = .ok (.aload_n 0, 1) := by decide +kernel
theorem dL_law_1271 : decode cL_law 1271 = .ok (.iload_n 3, 1) := by decide +kernel
theorem dL_law_1272 : decode cL_law 1272 = .ok (.iconst 1, 1) := by decide +kernel
theorem dL_law_1273 : decode cL_law 1273 = .ok (.iadd, 1) := by decide +kernel
theorem dL_law_1274 : decode cL_law 1274 = .ok (.iaload, 1) := by decide +kernel
theorem dL_law_1275 : decode cL_law 1275 = .ok (.aload_n 0, 1) := by decide +kernel
theorem dL_law_1276 : decode cL_law 1276 = .ok (.iload_n 3, 1) := by decide +kernel
theorem dL_law_1277 : decode cL_law 1277 = .ok (.iconst 2, 1) := by decide +kernel
theorem dL_law_1278 : decode cL_law 1278 = .ok (.iadd, 1) := by decide +kernel
theorem dL_law_1279 : decode cL_law 1279 = .ok (.iaload, 1) := by decide +kernel
theorem dL_law_1280 : decode cL_law 1280 = .ok (.invokevirtual 171, 3) := by decide +kernel
theorem dL_law_1283 : decode cL_law 1283 = .ok (.if_icmp .eq 409, 3) := by decide +kernel
theorem dL_law_1286 : decode cL_law 1286 = .ok (.iconst 0, 1) := by decide +kernel
theorem dL_law_1287 : decode cL_law 1287 = .ok (.ireturn, 1) := by decide +kernel
theorem dL_law_1288 : decode cL_law 1288 = .ok (.aload_n 1, 1) := by decide +kernel
theorem dL_law_1289 : decode cL_law 1289 = .ok (.invokevirtual 172, 3) := by decide +kernel
theorem dL_law_1292 : decode cL_law 1292 = .ok (.aload_n 2, 1) := by decide +kernel
theorem dL_law_1293 : decode cL_law 1293 = .ok (.invokevirtual 175, 3) := by decide +kernel
theorem dL_law_1296 : decode cL_law 1296 = .ok (.if_icmp .eq 396, 3) := by decide +kernel
theorem dL_law_1299 : decode cL_law 1299 = .ok (.iconst 0, 1) := by decide +kernel
theorem dL_law_1300 : decode cL_law 1300 = .ok (.ireturn, 1) := by decide +kernel
theorem dL_law_1301 : decode cL_law 1301 = .ok (.aload_n 1, 1) := by decide +kernel
theorem dL_law_1302 : decode cL_law 1302 = .ok (.aload_n 0, 1) := by decide +kernel
theorem dL_law_1303 : decode cL_law 1303 = .ok (.iload_n 3, 1) := by decide +kernel
theorem dL_law_1304 : decode cL_law 1304 = .ok (.iconst 1, 1) := by decide +kernel
theorem dL_law_1305 : decode cL_law 1305 = .ok (.iadd, 1) := by decide +kernel
theorem dL_law_1306 : decode cL_law 1306 = .ok (.iaload, 1) := by decide +kernel
theorem dL_law_1307 : decode cL_law 1307 = .ok (.invokevirtual 176, 3) := by decide +kernel
theorem dL_law_1310 : decode cL_law 1310 = .ok (.aload_n 2, 1) := by decide +kernel
theorem dL_law_1311 : decode cL_law 1311 = .ok (.aload_n 0, 1) := by decide +kernel
theorem dL_law_1312 : decode cL_law 1312 = .ok (.iload_n 3, 1) := by decide +kernel
theorem dL_law_1313 : decode cL_law 1313 = .ok (.iconst 1, 1) := by decide +kernel
theorem dL_law_1314 : decode cL_law 1314 = .ok (.iadd, 1) := by decide +kernel
theorem dL_law_1315 : decode cL_law 1315 = .ok (.iaload, 1) := by decide +kernel
theorem dL_law_1316 : decode cL_law 1316 = .ok (.invokevirtual 179, 3) := by decide +kernel
theorem dL_law_1319 : decode cL_law 1319 = .ok (.if_icmp .eq 373, 3) := by decide +kernel
theorem dL_law_1322 : decode cL_law 1322 = .ok (.iconst 0, 1) := by decide +kernel
theorem dL_law_1323 : decode cL_law 1323 = .ok (.ireturn, 1) := by decide +kernel
theorem dL_law_1324 : decode cL_law 1324 = .ok (.aload_n 1, 1) := by decide +kernel
theorem dL_law_1325 : decode cL_law 1325 = .ok (.invokevirtual 180, 3) := by decide +kernel
theorem dL_law_1328 : decode cL_law 1328 = .ok (.aload_n 2, 1) := by decide +kernel
theorem dL_law_1329 : decode cL_law 1329 = .ok (.invokevirtual 183, 3) := by decide +kernel
theorem dL_law_1332 : decode cL_law 1332 = .ok (.if_icmp .eq 360, 3) := by decide +kernel
theorem dL_law_1335 : decode cL_law 1335 = .ok (.iconst 0, 1) := by decide +kernel
theorem dL_law_1336 : decode cL_law 1336 = .ok (.ireturn, 1) := by decide +kernel
theorem dL_law_1337 : decode cL_law 1337 = .ok (.aload_n 1, 1) := by decide +kernel
theorem dL_law_1338 : decode cL_law 1338 = .ok (.aload_n 0, 1) := by decide +kernel
theorem dL_law_1339 : decode cL_law 1339 = .ok (.iload_n 3, 1) := by decide +kernel
theorem dL_law_1340 : decode cL_law 1340 = .ok (.iconst 1, 1) := by decide +kernel
theorem dL_law_1341 : decode cL_law 1341 = .ok (.iadd, 1) := by decide +kernel
theorem dL_law_1342 : decode cL_law 1342 = .ok (.iaload, 1) := by decide +kernel
theorem dL_law_1343 : decode cL_law 1343 = .ok (.invokevirtual 184, 3) := by decide +kernel
theorem dL_law_1346 : decode cL_law 1346 = .ok (.aload_n 2, 1) := by decide +kernel
theorem dL_law_1347 : decode cL_law 1347 = .ok (.aload_n 0, 1) := by decide +kernel
theorem dL_law_1348 : decode cL_law 1348 = .ok (.iload_n 3, 1) := by decide +kernel
theorem dL_law_1349 : decode cL_law 1349 = .ok (.iconst 1, 1) := by decide +kernel
theorem dL_law_1350 : decode cL_law 1350 = .ok (.iadd, 1) := by decide +kernel
theorem dL_law_1351 : decode cL_law 1351 = .ok (.iaload, 1) := by decide +kernel
theorem dL_law_1352 : decode cL_law 1352 = .ok (.invokevirtual 187, 3) := by decide +kernel
theorem dL_law_1355 : decode cL_law 1355 = .ok (.if_icmp .eq 337, 3) := by decide +kernel
theorem dL_law_1358 : decode cL_law 1358 = .ok (.iconst 0, 1) := by decide +kernel
theorem dL_law_1359 : decode cL_law 1359 = .ok (.ireturn, 1) := by decide +kernel
theorem dL_law_1360 : decode cL_law 1360 = .ok (.aload_n 1, 1) := by decide +kernel
theorem dL_law_1361 : decode cL_law 1361 = .ok (.invokevirtual 188, 3) := by decide +kernel
theorem dL_law_1364 : decode cL_law 1364 = .ok (.aload_n 2, 1) := by decide +kernel
theorem dL_law_1365 : decode cL_law 1365 = .ok (.invokevirtual 191, 3) := by decide +kernel
theorem dL_law_1368 : decode cL_law 1368 = .ok (.if_icmp .eq 324, 3) := by decide +kernel
theorem dL_law_1371 : decode cL_law 1371 = .ok (.iconst 0, 1) := by decide +kernel
theorem dL_law_1372 : decode cL_law 1372 = .ok (.ireturn, 1) := by decide +kernel
theorem dL_law_1373 : decode cL_law 1373 = .ok (.aload_n 1, 1) := by decide +kernel
theorem dL_law_1374 : decode cL_law 1374 = .ok (.invokevirtual 192, 3) := by decide +kernel
theorem dL_law_1377 : decode cL_law 1377 = .ok (.aload_n 2, 1) := by decide +kernel
theorem dL_law_1378 : decode cL_law 1378 = .ok (.invokevirtual 195, 3) := by decide +kernel
theorem dL_law_1381 : decode cL_law 1381 = .ok (.if_icmp .eq 311, 3) := by decide +kernel
theorem dL_law_1384 : decode cL_law 1384 = .ok (.iconst 0, 1) := by decide +kernel
theorem dL_law_1385 : decode cL_law 1385 = .ok (.ireturn, 1) := by decide +kernel
theorem dL_law_1386 : decode cL_law 1386 = .ok (.aload_n 1, 1) := by decide +kernel
theorem dL_law_1387 : decode cL_law 1387 = .ok (.aload_n 0, 1) := by decide +kernel
theorem dL_law_1388 : decode cL_law 1388 = .ok (.iload_n 3, 1) := by decide +kernel
theorem dL_law_1389 : decode cL_law 1389 = .ok (.iconst 1, 1) := by decide +kernel
theorem dL_law_1390 : decode cL_law 1390 = .ok (.iadd, 1) := by decide +kernel
theorem dL_law_1391 : decode cL_law 1391 = .ok (.iaload, 1) := by decide +kernel
theorem dL_law_1392 : decode cL_law 1392 = .ok (.invokevirtual 196, 3) := by decide +kernel
theorem dL_law_1395 : decode cL_law 1395 = .ok (.aload_n 2, 1) := by decide +kernel
theorem dL_law_1396 : decode cL_law 1396 = .ok (.aload_n 0, 1) := by decide +kernel
theorem dL_law_1397 : decode cL_law 1397 = .ok (.iload_n 3, 1) := by decide +kernel
theorem dL_law_1398 : decode cL_law 1398 = .ok (.iconst 1, 1) := by decide +kernel
theorem dL_law_1399 : decode cL_law 1399 = .ok (.iadd, 1) := by decide +kernel
theorem dL_law_1400 : decode cL_law 1400 = .ok (.iaload, 1) := by decide +kernel
theorem dL_law_1401 : decode cL_law 1401 = .ok (.invokevirtual 199, 3) := by decide +kernel
theorem dL_law_1404 : decode cL_law 1404 = .ok (.if_icmp .eq 288, 3) := by decide +kernel
theorem dL_law_1407 : decode cL_law 1407 = .ok (.iconst 0, 1) := by decide +kernel
theorem dL_law_1408 : decode cL_law 1408 = .ok (.ireturn, 1) := by decide +kernel
theorem dL_law_1409 : decode cL_law 1409 = .ok (.aload_n 1, 1) := by decide +kernel
theorem dL_law_1410 : decode cL_law 1410 = .ok (.aload_n 0, 1) := by decide +kernel
theorem dL_law_1411 : decode cL_law 1411 = .ok (.iload_n 3, 1) := by decide +kernel
theorem dL_law_1412 : decode cL_law 1412 = .ok (.iconst 1, 1) := by decide +kernel
theorem dL_law_1413 : decode cL_law 1413 = .ok (.iadd, 1) := by decide +kernel
theorem dL_law_1414 : decode cL_law 1414 = .ok (.iaload, 1) := by decide +kernel
theorem dL_law_1415 : decode cL_law 1415 = .ok (.aload_n 0, 1) := by decide +kernel
theorem dL_law_1416 : decode cL_law 1416 = .ok (.iload_n 3, 1) := by decide +kernel
theorem dL_law_1417 : decode cL_law 1417 = .ok (.iconst 2, 1) := by decide +kernel
theorem dL_law_1418 : decode cL_law 1418 = .ok (.iadd, 1) := by decide +kernel
theorem dL_law_1419 : decode cL_law 1419 = .ok (.iaload, 1) := by decide +kernel
theorem dL_law_1420 : decode cL_law 1420 = .ok (.ifCond .eq 7, 3) := by decide +kernel
theorem dL_law_1423 : decode cL_law 1423 = .ok (.iconst 1, 1) := by decide +kernel
theorem dL_law_1424 : decode cL_law 1424 = .ok (.goto 4, 3) := by decide +kernel
theorem dL_law_1427 : decode cL_law 1427 = .ok (.iconst 0, 1) := by decide +kernel
theorem dL_law_1428 : decode cL_law 1428 = .ok (.invokevirtual 200, 3) := by decide +kernel
theorem dL_law_1431 : decode cL_law 1431 = .ok (.aload_n 2, 1) := by decide +kernel
theorem dL_law_1432 : decode cL_law 1432 = .ok (.aload_n 0, 1) := by decide +kernel
theorem dL_law_1433 : decode cL_law 1433 = .ok (.iload_n 3, 1) := by decide +kernel
theorem dL_law_1434 : decode cL_law 1434 = .ok (.iconst 1, 1) := by decide +kernel
theorem dL_law_1435 : decode cL_law 1435 = .ok (.iadd, 1) := by decide +kernel
theorem dL_law_1436 : decode cL_law 1436 = .ok (.iaload, 1) := by decide +kernel
theorem dL_law_1437 : decode cL_law 1437 = .ok (.aload_n 0, 1) := by decide +kernel
theorem dL_law_1438 : decode cL_law 1438 = .ok (.iload_n 3, 1) := by decide +kernel
theorem dL_law_1439 : decode cL_law 1439 = .ok (.iconst 2, 1) := by decide +kernel
theorem dL_law_1440 : decode cL_law 1440 = .ok (.iadd, 1) := by decide +kernel
theorem dL_law_1441 : decode cL_law 1441 = .ok (.iaload, 1) := by decide +kernel
theorem dL_law_1442 : decode cL_law 1442 = .ok (.ifCond .eq 7, 3) := by decide +kernel
theorem dL_law_1445 : decode cL_law 1445 = .ok (.iconst 1, 1) := by decide +kernel
theorem dL_law_1446 : decode cL_law 1446 = .ok (.goto 4, 3) := by decide +kernel
theorem dL_law_1449 : decode cL_law 1449 = .ok (.iconst 0, 1) := by decide +kernel
theorem dL_law_1450 : decode cL_law 1450 = .ok (.invokevirtual 204, 3) := by decide +kernel
theorem dL_law_1453 : decode cL_law 1453 = .ok (.if_icmp .eq 239, 3) := by decide +kernel
theorem dL_law_1456 : decode cL_law 1456 = .ok (.iconst 0, 1) := by decide +kernel
theorem dL_law_1457 : decode cL_law 1457 = .ok (.ireturn, 1) := by decide +kernel
theorem dL_law_1458 : decode cL_law 1458 = .ok (.aload_n 1, 1) := by decide +kernel
theorem dL_law_1459 : decode cL_law 1459 = .ok (.aload_n 0, 1) := by decide +kernel
theorem dL_law_1460 : decode cL_law 1460 = .ok (.iload_n 3, 1) := by decide +kernel
theorem dL_law_1461 : decode cL_law 1461 = .ok (.iconst 1, 1) := by decide +kernel
theorem dL_law_1462 : decode cL_law 1462 = .ok (.iadd, 1) := by decide +kernel
theorem dL_law_1463 : decode cL_law 1463 = .ok (.iaload, 1) := by decide +kernel
theorem dL_law_1464 : decode cL_law 1464 = .ok (.invokevirtual 205, 3) := by decide +kernel
theorem dL_law_1467 : decode cL_law 1467 = .ok (.aload_n 2, 1) := by decide +kernel
theorem dL_law_1468 : decode cL_law 1468 = .ok (.aload_n 0, 1) := by decide +kernel
theorem dL_law_1469 : decode cL_law 1469 = .ok (.iload_n 3, 1) := by decide +kernel
theorem dL_law_1470 : decode cL_law 1470 = .ok (.iconst 1, 1) := by decide +kernel
theorem dL_law_1471 : decode cL_law 1471 = .ok (.iadd, 1) := by decide +kernel
theorem dL_law_1472 : decode cL_law 1472 = .ok (.iaload, 1) := by decide +kernel
theorem dL_law_1473 : decode cL_law 1473 = .ok (.invokevirtual 209, 3) := by decide +kernel
theorem dL_law_1476 : decode cL_law 1476 = .ok (.if_icmp .eq 216, 3) := by decide +kernel
theorem dL_law_1479 : decode cL_law 1479 = .ok (.iconst 0, 1) := by decide +kernel
theorem dL_law_1480 : decode cL_law 1480 = .ok (.ireturn, 1) := by decide +kernel
theorem dL_law_1481 : decode cL_law 1481 = .ok (.aload_n 1, 1) := by decide +kernel
theorem dL_law_1482 : decode cL_law 1482 = .ok (.aload_n 0, 1) := by decide +kernel
theorem dL_law_1483 : decode cL_law 1483 = .ok (.iload_n 3, 1) := by decide +kernel
theorem dL_law_1484 : decode cL_law 1484 = .ok (.iconst 1, 1) := by decide +kernel
theorem dL_law_1485 : decode cL_law 1485 = .ok (.iadd, 1) := by decide +kernel
theorem dL_law_1486 : decode cL_law 1486 = .ok (.iaload, 1) := by decide +kernel
theorem dL_law_1487 : decode cL_law 1487 = .ok (.invokevirtual 210, 3) := by decide +kernel
theorem dL_law_1490 : decode cL_law 1490 = .ok (.aload_n 2, 1) := by decide +kernel
theorem dL_law_1491 : decode cL_law 1491 = .ok (.aload_n 0, 1) := by decide +kernel
theorem dL_law_1492 : decode cL_law 1492 = .ok (.iload_n 3, 1) := by decide +kernel
theorem dL_law_1493 : decode cL_law 1493 = .ok (.iconst 1, 1) := by decide +kernel
theorem dL_law_1494 : decode cL_law 1494 = .ok (.iadd, 1) := by decide +kernel
theorem dL_law_1495 : decode cL_law 1495 = .ok (.iaload, 1) := by decide +kernel
theorem dL_law_1496 : decode cL_law 1496 = .ok (.invokevirtual 213, 3) := by decide +kernel
theorem dL_law_1499 : decode cL_law 1499 = .ok (.if_icmp .eq 193, 3) := by decide +kernel
theorem dL_law_1502 : decode cL_law 1502 = .ok (.iconst 0, 1) := by decide +kernel
theorem dL_law_1503 : decode cL_law 1503 = .ok (.ireturn, 1) := by decide +kernel
theorem dL_law_1504 : decode cL_law 1504 = .ok (.aload_n 1, 1) := by decide +kernel
theorem dL_law_1505 : decode cL_law 1505 = .ok (.aload_n 0, 1) := by decide +kernel
theorem dL_law_1506 : decode cL_law 1506 = .ok (.iload_n 3, 1) := by decide +kernel
theorem dL_law_1507 : decode cL_law 1507 = .ok (.iconst 1, 1) := by decide +kernel
theorem dL_law_1508 : decode cL_law 1508 = .ok (.iadd, 1) := by decide +kernel
theorem dL_law_1509 : decode cL_law 1509 = .ok (.iaload, 1) := by decide +kernel
theorem dL_law_1510 : decode cL_law 1510 = .ok (.aload_n 0, 1) := by decide +kernel
theorem dL_law_1511 : decode cL_law 1511 = .ok (.iload_n 3, 1) := by decide +kernel
theorem dL_law_1512 : decode cL_law 1512 = .ok (.iconst 2, 1) := by decide +kernel
theorem dL_law_1513 : decode cL_law 1513 = .ok (.iadd, 1) := by decide +kernel
theorem dL_law_1514 : decode cL_law 1514 = .ok (.iaload, 1) := by decide +kernel
theorem dL_law_1515 : decode cL_law 1515 = .ok (.invokevirtual 214, 3) := by decide +kernel
theorem dL_law_1518 : decode cL_law 1518 = .ok (.aload_n 2, 1) := by decide +kernel
theorem dL_law_1519 : decode cL_law 1519 = .ok (.aload_n 0, 1) := by decide +kernel
theorem dL_law_1520 : decode cL_law 1520 = .ok (.iload_n 3, 1) := by decide +kernel
theorem dL_law_1521 : decode cL_law 1521 = .ok (.iconst 1, 1) := by decide +kernel
theorem dL_law_1522 : decode cL_law 1522 = .ok (.iadd, 1) := by decide +kernel
theorem dL_law_1523 : decode cL_law 1523 = .ok (.iaload, 1) := by decide +kernel
theorem dL_law_1524 : decode cL_law 1524 = .ok (.aload_n 0, 1) := by decide +kernel
theorem dL_law_1525 : decode cL_law 1525 = .ok (.iload_n 3, 1) := by decide +kernel
theorem dL_law_1526 : decode cL_law 1526 = .ok (.iconst 2, 1) := by decide +kernel
theorem dL_law_1527 : decode cL_law 1527 = .ok (.iadd, 1) := by decide +kernel
theorem dL_law_1528 : decode cL_law 1528 = .ok (.iaload, 1) := by decide +kernel
theorem dL_law_1529 : decode cL_law 1529 = .ok (.invokevirtual 217, 3) := by decide +kernel
theorem dL_law_1532 : decode cL_law 1532 = .ok (.if_icmp .eq 160, 3) := by decide +kernel
theorem dL_law_1535 : decode cL_law 1535 = .ok (.iconst 0, 1) := by decide +kernel
theorem dL_law_1536 : decode cL_law 1536 = .ok (.ireturn, 1) := by decide +kernel
theorem dL_law_1537 : decode cL_law 1537 = .ok (.aload_n 1, 1) := by decide +kernel
theorem dL_law_1538 : decode cL_law 1538 = .ok (.aload_n 0, 1) := by decide +kernel
theorem dL_law_1539 : decode cL_law 1539 = .ok (.iload_n 3, 1) := by decide +kernel
theorem dL_law_1540 : decode cL_law 1540 = .ok (.iconst 1, 1) := by decide +kernel
theorem dL_law_1541 : decode cL_law 1541 = .ok (.iadd, 1) := by decide +kernel
theorem dL_law_1542 : decode cL_law 1542 = .ok (.iaload, 1) := by decide +kernel
theorem dL_law_1543 : decode cL_law 1543 = .ok (.aload_n 0, 1) := by decide +kernel
theorem dL_law_1544 : decode cL_law 1544 = .ok (.iload_n 3, 1) := by decide +kernel
theorem dL_law_1545 : decode cL_law 1545 = .ok (.iconst 2, 1) := by decide +kernel
theorem dL_law_1546 : decode cL_law 1546 = .ok (.iadd, 1) := by decide +kernel
theorem dL_law_1547 : decode cL_law 1547 = .ok (.iaload, 1) := by decide +kernel
theorem dL_law_1548 : decode cL_law 1548 = .ok (.aload_n 0, 1) := by decide +kernel
theorem dL_law_1549 : decode cL_law 1549 = .ok (.iload_n 3, 1) := by decide +kernel
theorem dL_law_1550 : decode cL_law 1550 = .ok (.iconst 3, 1) := by decide +kernel
theorem dL_law_1551 : decode cL_law 1551 = .ok (.iadd, 1) := by decide +kernel
theorem dL_law_1552 : decode cL_law 1552 = .ok (.iaload, 1) := by decide +kernel
theorem dL_law_1553 : decode cL_law 1553 = .ok (.invokevirtual 218, 3) := by decide +kernel
theorem dL_law_1556 : decode cL_law 1556 = .ok (.aload_n 2, 1) := by decide +kernel
theorem dL_law_1557 : decode cL_law 1557 = .ok (.aload_n 0, 1) := by decide +kernel
theorem dL_law_1558 : decode cL_law 1558 = .ok (.iload_n 3, 1) := by decide +kernel
theorem dL_law_1559 : decode cL_law 1559 = .ok (.iconst 1, 1) := by decide +kernel
theorem dL_law_1560 : decode cL_law 1560 = .ok (.iadd, 1) := by decide +kernel
theorem dL_law_1561 : decode cL_law 1561 = .ok (.iaload, 1) := by decide +kernel
theorem dL_law_1562 : decode cL_law 1562 = .ok (.aload_n 0, 1) := by decide +kernel
theorem dL_law_1563 : decode cL_law 1563 = .ok (.iload_n 3, 1) := by decide +kernel
theorem dL_law_1564 : decode cL_law 1564 = .ok (.iconst 2, 1) := by decide +kernel
theorem dL_law_1565 : decode cL_law 1565 = .ok (.iadd, 1) := by decide +kernel
theorem dL_law_1566 : decode cL_law 1566 = .ok (.iaload, 1) := by decide +kernel
theorem dL_law_1567 : decode cL_law 1567 = .ok (.aload_n 0, 1) := by decide +kernel
theorem dL_law_1568 : decode cL_law 1568 = .ok (.iload_n 3, 1) := by decide +kernel
theorem dL_law_1569 : decode cL_law 1569 = .ok (.iconst 3, 1) := by decide +kernel
theorem dL_law_1570 : decode cL_law 1570 = .ok (.iadd, 1) := by decide +kernel
theorem dL_law_1571 : decode cL_law 1571 = .ok (.iaload, 1) := by decide +kernel
theorem dL_law_1572 : decode cL_law 1572 = .ok (.invokevirtual 221, 3) := by decide +kernel
theorem dL_law_1575 : decode cL_law 1575 = .ok (.if_icmp .eq 117, 3) := by decide +kernel
theorem dL_law_1578 : decode cL_law 1578 = .ok (.iconst 0, 1) := by decide +kernel
theorem dL_law_1579 : decode cL_law 1579 = .ok (.ireturn, 1) := by decide +kernel
theorem dL_law_1580 : decode cL_law 1580 = .ok (.aload_n 1, 1) := by decide +kernel
theorem dL_law_1581 : decode cL_law 1581 = .ok (.aload_n 0, 1) := by decide +kernel
theorem dL_law_1582 : decode cL_law 1582 = .ok (.iload_n 3, 1) := by decide +kernel
theorem dL_law_1583 : decode cL_law 1583 = .ok (.iconst 1, 1) := by decide +kernel
theorem dL_law_1584 : decode cL_law 1584 = .ok (.iadd, 1) := by decide +kernel
theorem dL_law_1585 : decode cL_law 1585 = .ok (.iaload, 1) := by decide +kernel
theorem dL_law_1586 : decode cL_law 1586 = .ok (.aload_n 0, 1) := by decide +kernel
theorem dL_law_1587 : decode cL_law 1587 = .ok (.iload_n 3, 1) := by decide +kernel
theorem dL_law_1588 : decode cL_law 1588 = .ok (.iconst 2, 1) := by decide +kernel
theorem dL_law_1589 : decode cL_law 1589 = .ok (.iadd, 1) := by decide +kernel
theorem dL_law_1590 : decode cL_law 1590 = .ok (.iaload, 1) := by decide +kernel
theorem dL_law_1591 : decode cL_law 1591 = .ok (.aload_n 0, 1) := by decide +kernel
theorem dL_law_1592 : decode cL_law 1592 = .ok (.iload_n 3, 1) := by decide +kernel
theorem dL_law_1593 : decode cL_law 1593 = .ok (.iconst 3, 1) := by decide +kernel
theorem dL_law_1594 : decode cL_law 1594 = .ok (.iadd, 1) := by decide +kernel
theorem dL_law_1595 : decode cL_law 1595 = .ok (.iaload, 1) := by decide +kernel
theorem dL_law_1596 : decode cL_law 1596 = .ok (.invokevirtual 222, 3) := by decide +kernel
theorem dL_law_1599 : decode cL_law 1599 = .ok (.aload_n 2, 1) := by decide +kernel
theorem dL_law_1600 : decode cL_law 1600 = .ok (.aload_n 0, 1) := by decide +kernel
theorem dL_law_1601 : decode cL_law 1601 = .ok (.iload_n 3, 1) := by decide +kernel
theorem dL_law_1602 : decode cL_law 1602 = .ok (.iconst 1, 1) := by decide +kernel
theorem dL_law_1603 : decode cL_law 1603 = .ok (.iadd, 1) := by decide +kernel
theorem dL_law_1604 : decode cL_law 1604 = .ok (.iaload, 1) := by decide +kernel
theorem dL_law_1605 : decode cL_law 1605 = .ok (.aload_n 0, 1) := by decide +kernel
theorem dL_law_1606 : decode cL_law 1606 = .ok (.iload_n 3, 1) := by decide +kernel
theorem dL_law_1607 : decode cL_law 1607 = .ok (.iconst 2, 1) := by decide +kernel
theorem dL_law_1608 : decode cL_law 1608 = .ok (.iadd, 1) := by decide +kernel
theorem dL_law_1609 : decode cL_law 1609 = .ok (.iaload, 1) := by decide +kernel
theorem dL_law_1610 : decode cL_law 1610 = .ok (.aload_n 0, 1) := by decide +kernel
theorem dL_law_1611 : decode cL_law 1611 = .ok (.iload_n 3, 1) := by decide +kernel
theorem dL_law_1612 : decode cL_law 1612 = .ok (.iconst 3, 1) := by decide +kernel
theorem dL_law_1613 : decode cL_law 1613 = .ok (.iadd, 1) := by decide +kernel
theorem dL_law_1614 : decode cL_law 1614 = .ok (.iaload, 1) := by decide +kernel
theorem dL_law_1615 : decode cL_law 1615 = .ok (.invokevirtual 225, 3) := by decide +kernel
theorem dL_law_1618 : decode cL_law 1618 = .ok (.if_icmp .eq 74, 3) := by decide +kernel
theorem dL_law_1621 : decode cL_law 1621 = .ok (.iconst 0, 1) := by decide +kernel
theorem dL_law_1622 : decode cL_law 1622 = .ok (.ireturn, 1) := by decide +kernel
theorem dL_law_1623 : decode cL_law 1623 = .ok (.aload_n 1, 1) := by decide +kernel
theorem dL_law_1624 : decode cL_law 1624 = .ok (.aload_n 0, 1) := by decide +kernel
theorem dL_law_1625 : decode cL_law 1625 = .ok (.iload_n 3, 1) := by decide +kernel
theorem dL_law_1626 : decode cL_law 1626 = .ok (.iconst 1, 1) := by decide +kernel
theorem dL_law_1627 : decode cL_law 1627 = .ok (.iadd, 1) := by decide +kernel
theorem dL_law_1628 : decode cL_law 1628 = .ok (.iaload, 1) := by decide +kernel
theorem dL_law_1629 : decode cL_law 1629 = .ok (.invokevirtual 226, 3) := by decide +kernel
theorem dL_law_1632 : decode cL_law 1632 = .ok (.aload_n 2, 1) := by decide +kernel
theorem dL_law_1633 : decode cL_law 1633 = .ok (.aload_n 0, 1) := by decide +kernel
theorem dL_law_1634 : decode cL_law 1634 = .ok (.iload_n 3, 1) := by decide +kernel
theorem dL_law_1635 : decode cL_law 1635 = .ok (.iconst 1, 1) := by decide +kernel
theorem dL_law_1636 : decode cL_law 1636 = .ok (.iadd, 1) := by decide +kernel
theorem dL_law_1637 : decode cL_law 1637 = .ok (.iaload, 1) := by decide +kernel
theorem dL_law_1638 : decode cL_law 1638 = .ok (.invokevirtual 229, 3) := by decide +kernel
theorem dL_law_1641 : decode cL_law 1641 = .ok (.if_icmp .eq 51, 3) := by decide +kernel
theorem dL_law_1644 : decode cL_law 1644 = .ok (.iconst 0, 1) := by decide +kernel
theorem dL_law_1645 : decode cL_law 1645 = .ok (.ireturn, 1) := by decide +kernel
theorem dL_law_1646 : decode cL_law 1646 = .ok (.aload_n 1, 1) := by decide +kernel
theorem dL_law_1647 : decode cL_law 1647 = .ok (.aload_n 0, 1) := by decide +kernel
theorem dL_law_1648 : decode cL_law 1648 = .ok (.iload_n 3, 1) := by decide +kernel
theorem dL_law_1649 : decode cL_law 1649 = .ok (.iconst 1, 1) := by decide +kernel
theorem dL_law_1650 : decode cL_law 1650 = .ok (.iadd, 1) := by decide +kernel
theorem dL_law_1651 : decode cL_law 1651 = .ok (.iaload, 1) := by decide +kernel
theorem dL_law_1652 : decode cL_law 1652 = .ok (.invokevirtual 230, 3) := by decide +kernel
theorem dL_law_1655 : decode cL_law 1655 = .ok (.aload_n 2, 1) := by decide +kernel
theorem dL_law_1656 : decode cL_law 1656 = .ok (.aload_n 0, 1) := by decide +kernel
theorem dL_law_1657 : decode cL_law 1657 = .ok (.iload_n 3, 1) := by decide +kernel
theorem dL_law_1658 : decode cL_law 1658 = .ok (.iconst 1, 1) := by decide +kernel
theorem dL_law_1659 : decode cL_law 1659 = .ok (.iadd, 1) := by decide +kernel
theorem dL_law_1660 : decode cL_law 1660 = .ok (.iaload, 1) := by decide +kernel
theorem dL_law_1661 : decode cL_law 1661 = .ok (.invokevirtual 233, 3) := by decide +kernel
theorem dL_law_1664 : decode cL_law 1664 = .ok (.if_icmp .eq 28, 3) := by decide +kernel
theorem dL_law_1667 : decode cL_law 1667 = .ok (.iconst 0, 1) := by decide +kernel
theorem dL_law_1668 : decode cL_law 1668 = .ok (.ireturn, 1) := by decide +kernel
theorem dL_law_1669 : decode cL_law 1669 = .ok (.aload_n 1, 1) := by decide +kernel
theorem dL_law_1670 : decode cL_law 1670 = .ok (.aload_n 0, 1) := by decide +kernel
theorem dL_law_1671 : decode cL_law 1671 = .ok (.iload_n 3, 1) := by decide +kernel
theorem dL_law_1672 : decode cL_law 1672 = .ok (.iconst 1, 1) := by decide +kernel
theorem dL_law_1673 : decode cL_law 1673 = .ok (.iadd, 1) := by decide +kernel
theorem dL_law_1674 : decode cL_law 1674 = .ok (.iaload, 1) := by decide +kernel
theorem dL_law_1675 : decode cL_law 1675 = .ok (.invokevirtual 234, 3) := by decide +kernel
theorem dL_law_1678 : decode cL_law 1678 = .ok (.aload_n 2, 1) := by decide +kernel
theorem dL_law_1679 : decode cL_law 1679 = .ok (.aload_n 0, 1) := by decide +kernel
theorem dL_law_1680 : decode cL_law 1680 = .ok (.iload_n 3, 1) := by decide +kernel
theorem dL_law_1681 : decode cL_law 1681 = .ok (.iconst 1, 1) := by decide +kernel
theorem dL_law_1682 : decode cL_law 1682 = .ok (.iadd, 1) := by decide +kernel
theorem dL_law_1683 : decode cL_law 1683 = .ok (.iaload, 1) := by decide +kernel
theorem dL_law_1684 : decode cL_law 1684 = .ok (.invokevirtual 237, 3) := by decide +kernel
theorem dL_law_1687 : decode cL_law 1687 = .ok (.if_icmp .eq 5, 3) := by decide +kernel
theorem dL_law_1690 : decode cL_law 1690 = .ok (.iconst 0, 1) := by decide +kernel
theorem dL_law_1691 : decode cL_law 1691 = .ok (.ireturn, 1) := by decide +kernel
theorem dL_law_1692 : decode cL_law 1692 = .ok (.iinc 3 6, 3) := by decide +kernel
theorem dL_law_1695 : decode cL_law 1695 = .ok (.goto (-1677), 3) := by decide +kernel
theorem dL_law_1698 : decode cL_law 1698 = .ok (.iconst 1, 1) := by decide +kernel
theorem dL_law_1699 : decode cL_law 1699 = .ok (.ireturn, 1) := by decide +kernel
