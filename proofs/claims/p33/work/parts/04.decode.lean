theorem dX0_ofNote_0 : decode cX0_ofNote 0 = .ok (.sipush 8192, 3) := by decide +kernel
theorem dX0_ofNote_3 : decode cX0_ofNote 3 = .ok (.iload_n 0, 1) := by decide +kernel
theorem dX0_ofNote_4 : decode cX0_ofNote 4 = .ok (.bipush 7, 2) := by decide +kernel
theorem dX0_ofNote_6 : decode cX0_ofNote 6 = .ok (.ishl, 1) := by decide +kernel
theorem dX0_ofNote_7 : decode cX0_ofNote 7 = .ok (.ior, 1) := by decide +kernel
theorem dX0_ofNote_8 : decode cX0_ofNote 8 = .ok (.iload_n 1, 1) := by decide +kernel
theorem dX0_ofNote_9 : decode cX0_ofNote 9 = .ok (.iconst 5, 1) := by decide +kernel
theorem dX0_ofNote_10 : decode cX0_ofNote 10 = .ok (.ishl, 1) := by decide +kernel
theorem dX0_ofNote_11 : decode cX0_ofNote 11 = .ok (.ior, 1) := by decide +kernel
theorem dX0_ofNote_12 : decode cX0_ofNote 12 = .ok (.iload_n 3, 1) := by decide +kernel
theorem dX0_ofNote_13 : decode cX0_ofNote 13 = .ok (.ifCond .eq 8, 3) := by decide +kernel
theorem dX0_ofNote_16 : decode cX0_ofNote 16 = .ok (.bipush 16, 2) := by decide +kernel
theorem dX0_ofNote_18 : decode cX0_ofNote 18 = .ok (.goto 4, 3) := by decide +kernel
theorem dX0_ofNote_21 : decode cX0_ofNote 21 = .ok (.iconst 0, 1) := by decide +kernel
theorem dX0_ofNote_22 : decode cX0_ofNote 22 = .ok (.ior, 1) := by decide +kernel
theorem dX0_ofNote_23 : decode cX0_ofNote 23 = .ok (.iload_n 2, 1) := by decide +kernel
theorem dX0_ofNote_24 : decode cX0_ofNote 24 = .ok (.ior, 1) := by decide +kernel
theorem dX0_ofNote_25 : decode cX0_ofNote 25 = .ok (.ireturn, 1) := by decide +kernel
theorem dX0_ofRest_0 : decode cX0_ofRest 0 = .ok (.sipush 16384, 3) := by decide +kernel
theorem dX0_ofRest_3 : decode cX0_ofRest 3 = .ok (.iload_n 0, 1) := by decide +kernel
theorem dX0_ofRest_4 : decode cX0_ofRest 4 = .ok (.ior, 1) := by decide +kernel
theorem dX0_ofRest_5 : decode cX0_ofRest 5 = .ok (.ireturn, 1) := by decide +kernel
theorem dX0_isNote_0 : decode cX0_isNote 0 = .ok (.iload_n 0, 1) := by decide +kernel
theorem dX0_isNote_1 : decode cX0_isNote 1 = .ok (.sipush 8192, 3) := by decide +kernel
theorem dX0_isNote_4 : decode cX0_isNote 4 = .ok (.iand, 1) := by decide +kernel
theorem dX0_isNote_5 : decode cX0_isNote 5 = .ok (.ifCond .eq 7, 3) := by decide +kernel
theorem dX0_isNote_8 : decode cX0_isNote 8 = .ok (.iconst 1, 1) := by decide +kernel
theorem dX0_isNote_9 : decode cX0_isNote 9 = .ok (.goto 4, 3) := by decide +kernel
theorem dX0_isNote_12 : decode cX0_isNote 12 = .ok (.iconst 0, 1) := by decide +kernel
theorem dX0_isNote_13 : decode cX0_isNote 13 = .ok (.ireturn, 1) := by decide +kernel
theorem dX0_isTied_0 : decode cX0_isTied 0 = .ok (.iload_n 0, 1) := by decide +kernel
theorem dX0_isTied_1 : decode cX0_isTied 1 = .ok (.bipush 16, 2) := by decide +kernel
theorem dX0_isTied_3 : decode cX0_isTied 3 = .ok (.iand, 1) := by decide +kernel
theorem dX0_isTied_4 : decode cX0_isTied 4 = .ok (.ifCond .eq 7, 3) := by decide +kernel
theorem dX0_isTied_7 : decode cX0_isTied 7 = .ok (.iconst 1, 1) := by decide +kernel
theorem dX0_isTied_8 : decode cX0_isTied 8 = .ok (.goto 4, 3) := by decide +kernel
theorem dX0_isTied_11 : decode cX0_isTied 11 = .ok (.iconst 0, 1) := by decide +kernel
theorem dX0_isTied_12 : decode cX0_isTied 12 = .ok (.ireturn, 1) := by decide +kernel
theorem dX0_pitchOf_0 : decode cX0_pitchOf 0 = .ok (.iload_n 0, 1) := by decide +kernel
theorem dX0_pitchOf_1 : decode cX0_pitchOf 1 = .ok (.bipush 7, 2) := by decide +kernel
theorem dX0_pitchOf_3 : decode cX0_pitchOf 3 = .ok (.ishr, 1) := by decide +kernel
theorem dX0_pitchOf_4 : decode cX0_pitchOf 4 = .ok (.bipush 63, 2) := by decide +kernel
theorem dX0_pitchOf_6 : decode cX0_pitchOf 6 = .ok (.iand, 1) := by decide +kernel
theorem dX0_pitchOf_7 : decode cX0_pitchOf 7 = .ok (.ireturn, 1) := by decide +kernel
theorem dX0_octaveOf_0 : decode cX0_octaveOf 0 = .ok (.iload_n 0, 1) := by decide +kernel
theorem dX0_octaveOf_1 : decode cX0_octaveOf 1 = .ok (.invokestatic 9, 3) := by decide +kernel
theorem dX0_octaveOf_4 : decode cX0_octaveOf 4 = .ok (.bipush 7, 2) := by decide +kernel
theorem dX0_octaveOf_6 : decode cX0_octaveOf 6 = .ok (.idiv, 1) := by decide +kernel
theorem dX0_octaveOf_7 : decode cX0_octaveOf 7 = .ok (.ireturn, 1) := by decide +kernel
theorem dX0_stepOf_0 : decode cX0_stepOf 0 = .ok (.iload_n 0, 1) := by decide +kernel
theorem dX0_stepOf_1 : decode cX0_stepOf 1 = .ok (.invokestatic 9, 3) := by decide +kernel
theorem dX0_stepOf_4 : decode cX0_stepOf 4 = .ok (.bipush 7, 2) := by decide +kernel
theorem dX0_stepOf_6 : decode cX0_stepOf 6 = .ok (.irem, 1) := by decide +kernel
theorem dX0_stepOf_7 : decode cX0_stepOf 7 = .ok (.ireturn, 1) := by decide +kernel
theorem dX0_signOf_0 : decode cX0_signOf 0 = .ok (.iload_n 0, 1) := by decide +kernel
theorem dX0_signOf_1 : decode cX0_signOf 1 = .ok (.iconst 5, 1) := by decide +kernel
theorem dX0_signOf_2 : decode cX0_signOf 2 = .ok (.ishr, 1) := by decide +kernel
theorem dX0_signOf_3 : decode cX0_signOf 3 = .ok (.iconst 3, 1) := by decide +kernel
theorem dX0_signOf_4 : decode cX0_signOf 4 = .ok (.iand, 1) := by decide +kernel
theorem dX0_signOf_5 : decode cX0_signOf 5 = .ok (.ireturn, 1) := by decide +kernel
theorem dX0_durationOf_0 : decode cX0_durationOf 0 = .ok (.iload_n 0, 1) := by decide +kernel
theorem dX0_durationOf_1 : decode cX0_durationOf 1 = .ok (.bipush 15, 2) := by decide +kernel
theorem dX0_durationOf_3 : decode cX0_durationOf 3 = .ok (.iand, 1) := by decide +kernel
theorem dX0_durationOf_4 : decode cX0_durationOf 4 = .ok (.ireturn, 1) := by decide +kernel
theorem dX0_isDotted_0 : decode cX0_isDotted 0 = .ok (.iload_n 0, 1) := by decide +kernel
theorem dX0_isDotted_1 : decode cX0_isDotted 1 = .ok (.invokestatic 13, 3) := by decide +kernel
theorem dX0_isDotted_4 : decode cX0_isDotted 4 = .ok (.iconst 2, 1) := by decide +kernel
theorem dX0_isDotted_5 : decode cX0_isDotted 5 = .ok (.irem, 1) := by decide +kernel
theorem dX0_isDotted_6 : decode cX0_isDotted 6 = .ok (.iconst 1, 1) := by decide +kernel
theorem dX0_isDotted_7 : decode cX0_isDotted 7 = .ok (.if_icmp .ne 7, 3) := by decide +kernel
theorem dX0_isDotted_10 : decode cX0_isDotted 10 = .ok (.iconst 1, 1) := by decide +kernel
theorem dX0_isDotted_11 : decode cX0_isDotted 11 = .ok (.goto 4, 3) := by decide +kernel
theorem dX0_isDotted_14 : decode cX0_isDotted 14 = .ok (.iconst 0, 1) := by decide +kernel
theorem dX0_isDotted_15 : decode cX0_isDotted 15 = .ok (.ireturn, 1) := by decide +kernel
theorem dX0_lengthOf_0 : decode cX0_lengthOf 0 = .ok (.iload_n 0, 1) := by decide +kernel
theorem dX0_lengthOf_1 : decode cX0_lengthOf 1 = .ok (.invokestatic 13, 3) := by decide +kernel
theorem dX0_lengthOf_4 : decode cX0_lengthOf 4 = .ok (.iconst 2, 1) := by decide +kernel
theorem dX0_lengthOf_5 : decode cX0_lengthOf 5 = .ok (.idiv, 1) := by decide +kernel
theorem dX0_lengthOf_6 : decode cX0_lengthOf 6 = .ok (.ireturn, 1) := by decide +kernel
theorem dX0_ticksOf_0 : decode cX0_ticksOf 0 = .ok (.iload_n 0, 1) := by decide +kernel
theorem dX0_ticksOf_1 : decode cX0_ticksOf 1 = .ok (.invokestatic 13, 3) := by decide +kernel
theorem dX0_ticksOf_4 : decode cX0_ticksOf 4 = .ok (.istore_n 1, 1) := by decide +kernel
theorem dX0_ticksOf_5 : decode cX0_ticksOf 5 = .ok (.bipush 64, 2) := by decide +kernel
theorem dX0_ticksOf_7 : decode cX0_ticksOf 7 = .ok (.iload_n 1, 1) := by decide +kernel
theorem dX0_ticksOf_8 : decode cX0_ticksOf 8 = .ok (.iconst 2, 1) := by decide +kernel
theorem dX0_ticksOf_9 : decode cX0_ticksOf 9 = .ok (.idiv, 1) := by decide +kernel
theorem dX0_ticksOf_10 : decode cX0_ticksOf 10 = .ok (.ishr, 1) := by decide +kernel
theorem dX0_ticksOf_11 : decode cX0_ticksOf 11 = .ok (.istore_n 2, 1) := by decide +kernel
theorem dX0_ticksOf_12 : decode cX0_ticksOf 12 = .ok (.iload_n 1, 1) := by decide +kernel
theorem dX0_ticksOf_13 : decode cX0_ticksOf 13 = .ok (.iconst 2, 1) := by decide +kernel
theorem dX0_ticksOf_14 : decode cX0_ticksOf 14 = .ok (.irem, 1) := by decide +kernel
theorem dX0_ticksOf_15 : decode cX0_ticksOf 15 = .ok (.iconst 1, 1) := by decide +kernel
theorem dX0_ticksOf_16 : decode cX0_ticksOf 16 = .ok (.if_icmp .ne 11, 3) := by decide +kernel
theorem dX0_ticksOf_19 : decode cX0_ticksOf 19 = .ok (.iload_n 2, 1) := by decide +kernel
theorem dX0_ticksOf_20 : decode cX0_ticksOf 20 = .ok (.iload_n 2, 1) := by decide +kernel
theorem dX0_ticksOf_21 : decode cX0_ticksOf 21 = .ok (.iconst 2, 1) := by decide +kernel
theorem dX0_ticksOf_22 : decode cX0_ticksOf 22 = .ok (.idiv, 1) := by decide +kernel
theorem dX0_ticksOf_23 : decode cX0_ticksOf 23 = .ok (.iadd, 1) := by decide +kernel
theorem dX0_ticksOf_24 : decode cX0_ticksOf 24 = .ok (.goto 4, 3) := by decide +kernel
theorem dX0_ticksOf_27 : decode cX0_ticksOf 27 = .ok (.iload_n 2, 1) := by decide +kernel
theorem dX0_ticksOf_28 : decode cX0_ticksOf 28 = .ok (.ireturn, 1) := by decide +kernel
theorem dX0_samePitch_0 : decode cX0_samePitch 0 = .ok (.iload_n 0, 1) := by decide +kernel
theorem dX0_samePitch_1 : decode cX0_samePitch 1 = .ok (.invokestatic 16, 3) := by decide +kernel
theorem dX0_samePitch_4 : decode cX0_samePitch 4 = .ok (.ifCond .eq 25, 3) := by decide +kernel
theorem dX0_samePitch_7 : decode cX0_samePitch 7 = .ok (.iload_n 1, 1) := by decide +kernel
theorem dX0_samePitch_8 : decode cX0_samePitch 8 = .ok (.invokestatic 16, 3) := by decide +kernel
theorem dX0_samePitch_11 : decode cX0_samePitch 11 = .ok (.ifCond .eq 18, 3) := by decide +kernel
theorem dX0_samePitch_14 : decode cX0_samePitch 14 = .ok (.iload_n 0, 1) := by decide +kernel
theorem dX0_samePitch_15 : decode cX0_samePitch 15 = .ok (.invokestatic 9, 3) := by decide +kernel
theorem dX0_samePitch_18 : decode cX0_samePitch 18 = .ok (.iload_n 1, 1) := by decide +kernel
theorem dX0_samePitch_19 : decode cX0_samePitch 19 = .ok (.invokestatic 9, 3) := by decide +kernel
theorem dX0_samePitch_22 : decode cX0_samePitch 22 = .ok (.if_icmp .ne 7, 3) := by decide +kernel
theorem dX0_samePitch_25 : decode cX0_samePitch 25 = .ok (.iconst 1, 1) := by decide +kernel
theorem dX0_samePitch_26 : decode cX0_samePitch 26 = .ok (.goto 4, 3) := by decide +kernel
theorem dX0_samePitch_29 : decode cX0_samePitch 29 = .ok (.iconst 0, 1) := by decide +kernel
theorem dX0_samePitch_30 : decode cX0_samePitch 30 = .ok (.ireturn, 1) := by decide +kernel
theorem dX1_init_0 : decode cX1_init 0 = .ok (.aload_n 0, 1) := by decide +kernel
theorem dX1_init_1 : decode cX1_init 1 = .ok (.invokespecial 1, 3) := by decide +kernel
theorem dX1_init_4 : decode cX1_init 4 = .ok (.aload_n 0, 1) := by decide +kernel
theorem dX1_init_5 : decode cX1_init 5 = .ok (.iconst 4, 1) := by decide +kernel
theorem dX1_init_6 : decode cX1_init 6 = .ok (.anewarray 9, 3) := by decide +kernel
theorem dX1_init_9 : decode cX1_init 9 = .ok (.putfield 11, 3) := by decide +kernel
theorem dX1_init_12 : decode cX1_init 12 = .ok (.iconst 0, 1) := by decide +kernel
theorem dX1_init_13 : decode cX1_init 13 = .ok (.istore_n 1, 1) := by decide +kernel
theorem dX1_init_14 : decode cX1_init 14 = .ok (.iload_n 1, 1) := by decide +kernel
theorem dX1_init_15 : decode cX1_init 15 = .ok (.iconst 4, 1) := by decide +kernel
theorem dX1_init_16 : decode cX1_init 16 = .ok (.if_icmp .ge 22, 3) := by decide +kernel
theorem dX1_init_19 : decode cX1_init 19 = .ok (.aload_n 0, 1) := by decide +kernel
theorem dX1_init_20 : decode cX1_init 20 = .ok (.getfield 11, 3) := by decide +kernel
theorem dX1_init_23 : decode cX1_init 23 = .ok (.iload_n 1, 1) := by decide +kernel
theorem dX1_init_24 : decode cX1_init 24 = .ok (.new 9, 3) := by decide +kernel
theorem dX1_init_27 : decode cX1_init 27 = .ok (.dup, 1) := by decide +kernel
theorem dX1_init_28 : decode cX1_init 28 = .ok (.invokespecial 15, 3) := by decide +kernel
theorem dX1_init_31 : decode cX1_init 31 = .ok (.aastore, 1) := by decide +kernel
theorem dX1_init_32 : decode cX1_init 32 = .ok (.iinc 1 1, 3) := by decide +kernel
theorem dX1_init_35 : decode cX1_init 35 = .ok (.goto (-21), 3) := by decide +kernel
theorem dX1_init_38 : decode cX1_init 38 = .ok (.return_, 1) := by decide +kernel
theorem dX1_size_0 : decode cX1_size 0 = .ok (.aload_n 0, 1) := by decide +kernel
theorem dX1_size_1 : decode cX1_size 1 = .ok (.getfield 16, 3) := by decide +kernel
theorem dX1_size_4 : decode cX1_size 4 = .ok (.ireturn, 1) := by decide +kernel
theorem dX1_push_0 : decode cX1_push 0 = .ok (.aload_n 0, 1) := by decide +kernel
theorem dX1_push_1 : decode cX1_push 1 = .ok (.aload_n 0, 1) := by decide +kernel
theorem dX1_push_2 : decode cX1_push 2 = .ok (.getfield 20, 3) := by decide +kernel
theorem dX1_push_5 : decode cX1_push 5 = .ok (.invokevirtual 23, 3) := by decide +kernel
theorem dX1_push_8 : decode cX1_push 8 = .ok (.astore_n 2, 1) := by decide +kernel
theorem dX1_push_9 : decode cX1_push 9 = .ok (.aload_n 2, 1) := by decide +kernel
theorem dX1_push_10 : decode cX1_push 10 = .ok (.ifnull 34, 3) := by decide +kernel
theorem dX1_push_13 : decode cX1_push 13 = .ok (.aload_n 2, 1) := by decide +kernel
theorem dX1_push_14 : decode cX1_push 14 = .ok (.aload_n 1, 1) := by decide +kernel
theorem dX1_push_15 : decode cX1_push 15 = .ok (.invokevirtual 27, 3) := by decide +kernel
theorem dX1_push_18 : decode cX1_push 18 = .ok (.aload_n 0, 1) := by decide +kernel
theorem dX1_push_19 : decode cX1_push 19 = .ok (.aload_n 0, 1) := by decide +kernel
theorem dX1_push_20 : decode cX1_push 20 = .ok (.getfield 20, 3) := by decide +kernel
theorem dX1_push_23 : decode cX1_push 23 = .ok (.iconst 1, 1) := by decide +kernel
theorem dX1_push_24 : decode cX1_push 24 = .ok (.iadd, 1) := by decide +kernel
theorem dX1_push_25 : decode cX1_push 25 = .ok (.iconst 4, 1) := by decide +kernel
theorem dX1_push_26 : decode cX1_push 26 = .ok (.irem, 1) := by decide +kernel
theorem dX1_push_27 : decode cX1_push 27 = .ok (.putfield 20, 3) := by decide +kernel
theorem dX1_push_30 : decode cX1_push 30 = .ok (.aload_n 0, 1) := by decide +kernel
theorem dX1_push_31 : decode cX1_push 31 = .ok (.aload_n 0, 1) := by decide +kernel
theorem dX1_push_32 : decode cX1_push 32 = .ok (.getfield 16, 3) := by decide +kernel
theorem dX1_push_35 : decode cX1_push 35 = .ok (.iconst 1, 1) := by decide +kernel
theorem dX1_push_36 : decode cX1_push 36 = .ok (.iadd, 1) := by decide +kernel
theorem dX1_push_37 : decode cX1_push 37 = .ok (.iconst 4, 1) := by decide +kernel
theorem dX1_push_38 : decode cX1_push 38 = .ok (.invokestatic 31, 3) := by decide +kernel
theorem dX1_push_41 : decode cX1_push 41 = .ok (.putfield 16, 3) := by decide +kernel
theorem dX1_push_44 : decode cX1_push 44 = .ok (.return_, 1) := by decide +kernel
theorem dX1_popInto_0 : decode cX1_popInto 0 = .ok (.aload_n 0, 1) := by decide +kernel
theorem dX1_popInto_1 : decode cX1_popInto 1 = .ok (.getfield 20, 3) := by decide +kernel
theorem dX1_popInto_4 : decode cX1_popInto 4 = .ok (.iconst 4, 1) := by decide +kernel
theorem dX1_popInto_5 : decode cX1_popInto 5 = .ok (.iadd, 1) := by decide +kernel
theorem dX1_popInto_6 : decode cX1_popInto 6 = .ok (.iconst 1, 1) := by decide +kernel
theorem dX1_popInto_7 : decode cX1_popInto 7 = .ok (.isub, 1) := by decide +kernel
theorem dX1_popInto_8 : decode cX1_popInto 8 = .ok (.iconst 4, 1) := by decide +kernel
theorem dX1_popInto_9 : decode cX1_popInto 9 = .ok (.irem, 1) := by decide +kernel
theorem dX1_popInto_10 : decode cX1_popInto 10 = .ok (.istore_n 2, 1) := by decide +kernel
theorem dX1_popInto_11 : decode cX1_popInto 11 = .ok (.aload_n 0, 1) := by decide +kernel
theorem dX1_popInto_12 : decode cX1_popInto 12 = .ok (.iload_n 2, 1) := by decide +kernel
theorem dX1_popInto_13 : decode cX1_popInto 13 = .ok (.invokevirtual 23, 3) := by decide +kernel
theorem dX1_popInto_16 : decode cX1_popInto 16 = .ok (.astore_n 3, 1) := by decide +kernel
theorem dX1_popInto_17 : decode cX1_popInto 17 = .ok (.aload_n 0, 1) := by decide +kernel
theorem dX1_popInto_18 : decode cX1_popInto 18 = .ok (.getfield 16, 3) := by decide +kernel
theorem dX1_popInto_21 : decode cX1_popInto 21 = .ok (.ifCond .le 27, 3) := by decide +kernel
theorem dX1_popInto_24 : decode cX1_popInto 24 = .ok (.aload_n 3, 1) := by decide +kernel
theorem dX1_popInto_25 : decode cX1_popInto 25 = .ok (.ifnull 23, 3) := by decide +kernel
theorem dX1_popInto_28 : decode cX1_popInto 28 = .ok (.aload_n 1, 1) := by decide +kernel
theorem dX1_popInto_29 : decode cX1_popInto 29 = .ok (.aload_n 3, 1) := by decide +kernel
theorem dX1_popInto_30 : decode cX1_popInto 30 = .ok (.invokevirtual 27, 3) := by decide +kernel
theorem dX1_popInto_33 : decode cX1_popInto 33 = .ok (.aload_n 0, 1) := by decide +kernel
theorem dX1_popInto_34 : decode cX1_popInto 34 = .ok (.iload_n 2, 1) := by decide +kernel
theorem dX1_popInto_35 : decode cX1_popInto 35 = .ok (.putfield 20, 3) := by decide +kernel
theorem dX1_popInto_38 : decode cX1_popInto 38 = .ok (.aload_n 0, 1) := by decide +kernel
theorem dX1_popInto_39 : decode cX1_popInto 39 = .ok (.dup, 1) := by decide +kernel
theorem dX1_popInto_40 : decode cX1_popInto 40 = .ok (.getfield 16, 3) := by decide +kernel
theorem dX1_popInto_43 : decode cX1_popInto 43 = .ok (.iconst 1, 1) := by decide +kernel
theorem dX1_popInto_44 : decode cX1_popInto 44 = .ok (.isub, 1) := by decide +kernel
theorem dX1_popInto_45 : decode cX1_popInto 45 = .ok (.putfield 16, 3) := by decide +kernel
theorem dX1_popInto_48 : decode cX1_popInto 48 = .ok (.return_, 1) := by decide +kernel
theorem dX1_place_0 : decode cX1_place 0 = .ok (.iload_n 1, 1) := by decide +kernel
theorem dX1_place_1 : decode cX1_place 1 = .ok (.ifCond .lt 17, 3) := by decide +kernel
theorem dX1_place_4 : decode cX1_place 4 = .ok (.iload_n 1, 1) := by decide +kernel
theorem dX1_place_5 : decode cX1_place 5 = .ok (.iconst 4, 1) := by decide +kernel
theorem dX1_place_6 : decode cX1_place 6 = .ok (.if_icmp .ge 12, 3) := by decide +kernel
theorem dX1_place_9 : decode cX1_place 9 = .ok (.aload_n 0, 1) := by decide +kernel
theorem dX1_place_10 : decode cX1_place 10 = .ok (.getfield 11, 3) := by decide +kernel
theorem dX1_place_13 : decode cX1_place 13 = .ok (.iload_n 1, 1) := by decide +kernel
theorem dX1_place_14 : decode cX1_place 14 = .ok (.aaload, 1) := by decide +kernel
theorem dX1_place_15 : decode cX1_place 15 = .ok (.goto 4, 3) := by decide +kernel
theorem dX1_place_18 : decode cX1_place 18 = .ok (.aconst_null, 1) := by decide +kernel
theorem dX1_place_19 : decode cX1_place 19 = .ok (.areturn, 1) := by decide +kernel
theorem dX2_init_0 : decode cX2_init 0 = .ok (.aload_n 0, 1) := by decide +kernel
theorem dX2_init_1 : decode cX2_init 1 = .ok (.invokespecial 5, 3) := by decide +kernel
theorem dX2_init_4 : decode cX2_init 4 = .ok (.aload_n 0, 1) := by decide +kernel
theorem dX2_init_5 : decode cX2_init 5 = .ok (.sipush 200, 3) := by decide +kernel
theorem dX2_init_8 : decode cX2_init 8 = .ok (.newarray .int, 2) := by decide +kernel
theorem dX2_init_10 : decode cX2_init 10 = .ok (.putfield 11, 3) := by decide +kernel
theorem dX2_init_13 : decode cX2_init 13 = .ok (.return_, 1) := by decide +kernel
theorem dX2_size_0 : decode cX2_size 0 = .ok (.aload_n 0, 1) := by decide +kernel
theorem dX2_size_1 : decode cX2_size 1 = .ok (.getfield 15, 3) := by decide +kernel
theorem dX2_size_4 : decode cX2_size 4 = .ok (.ireturn, 1) := by decide +kernel
theorem dX2_at_0 : decode cX2_at 0 = .ok (.iload_n 1, 1) := by decide +kernel
theorem dX2_at_1 : decode cX2_at 1 = .ok (.ifCond .lt 27, 3) := by decide +kernel
theorem dX2_at_4 : decode cX2_at 4 = .ok (.iload_n 1, 1) := by decide +kernel
theorem dX2_at_5 : decode cX2_at 5 = .ok (.aload_n 0, 1) := by decide +kernel
theorem dX2_at_6 : decode cX2_at 6 = .ok (.getfield 15, 3) := by decide +kernel
theorem dX2_at_9 : decode cX2_at 9 = .ok (.if_icmp .ge 19, 3) := by decide +kernel
theorem dX2_at_12 : decode cX2_at 12 = .ok (.iload_n 1, 1) := by decide +kernel
theorem dX2_at_13 : decode cX2_at 13 = .ok (.sipush 200, 3) := by decide +kernel
theorem dX2_at_16 : decode cX2_at 16 = .ok (.if_icmp .ge 12, 3) := by decide +kernel
theorem dX2_at_19 : decode cX2_at 19 = .ok (.aload_n 0, 1) := by decide +kernel
theorem dX2_at_20 : decode cX2_at 20 = .ok (.getfield 11, 3) := by decide +kernel
theorem dX2_at_23 : decode cX2_at 23 = .ok (.iload_n 1, 1) := by decide +kernel
theorem dX2_at_24 : decode cX2_at 24 = .ok (.iaload, 1) := by decide +kernel
theorem dX2_at_25 : decode cX2_at 25 = .ok (.goto 4, 3) := by decide +kernel
theorem dX2_at_28 : decode cX2_at 28 = .ok (.iconst 0, 1) := by decide +kernel
theorem dX2_at_29 : decode cX2_at 29 = .ok (.ireturn, 1) := by decide +kernel
theorem dX2_unroll_0 : decode cX2_unroll 0 = .ok (.aload_n 0, 1) := by decide +kernel
theorem dX2_unroll_1 : decode cX2_unroll 1 = .ok (.iconst 0, 1) := by decide +kernel
theorem dX2_unroll_2 : decode cX2_unroll 2 = .ok (.putfield 15, 3) := by decide +kernel
theorem dX2_unroll_5 : decode cX2_unroll 5 = .ok (.iconst 0, 1) := by decide +kernel
theorem dX2_unroll_6 : decode cX2_unroll 6 = .ok (.istore_n 2, 1) := by decide +kernel
theorem dX2_unroll_7 : decode cX2_unroll 7 = .ok (.iconst 1, 1) := by decide +kernel
theorem dX2_unroll_8 : decode cX2_unroll 8 = .ok (.istore_n 3, 1) := by decide +kernel
theorem dX2_unroll_9 : decode cX2_unroll 9 = .ok (.iconst 0, 1) := by decide +kernel
theorem dX2_unroll_10 : decode cX2_unroll 10 = .ok (.istore 4, 2) := by decide +kernel
theorem dX2_unroll_12 : decode cX2_unroll 12 = .ok (.iconst 0, 1) := by decide +kernel
theorem dX2_unroll_13 : decode cX2_unroll 13 = .ok (.istore 5, 2) := by decide +kernel
theorem dX2_unroll_15 : decode cX2_unroll 15 = .ok (.iconst 0, 1) := by decide +kernel
theorem dX2_unroll_16 : decode cX2_unroll 16 = .ok (.istore 6, 2) := by decide +kernel
theorem dX2_unroll_18 : decode cX2_unroll 18 = .ok (.iload 6, 2) := by decide +kernel
theorem dX2_unroll_20 : decode cX2_unroll 20 = .ok (.sipush 3417, 3) := by decide +kernel
theorem dX2_unroll_23 : decode cX2_unroll 23 = .ok (.if_icmp .ge 164, 3) := by decide +kernel
theorem dX2_unroll_26 : decode cX2_unroll 26 = .ok (.iload 4, 2) := by decide +kernel
theorem dX2_unroll_28 : decode cX2_unroll 28 = .ok (.aload_n 1, 1) := by decide +kernel
theorem dX2_unroll_29 : decode cX2_unroll 29 = .ok (.invokevirtual 19, 3) := by decide +kernel
theorem dX2_unroll_32 : decode cX2_unroll 32 = .ok (.if_icmp .ge 155, 3) := by decide +kernel
theorem dX2_unroll_35 : decode cX2_unroll 35 = .ok (.aload_n 0, 1) := by decide +kernel
theorem dX2_unroll_36 : decode cX2_unroll 36 = .ok (.getfield 15, 3) := by decide +kernel
theorem dX2_unroll_39 : decode cX2_unroll 39 = .ok (.sipush 200, 3) := by decide +kernel
theorem dX2_unroll_42 : decode cX2_unroll 42 = .ok (.if_icmp .ge 145, 3) := by decide +kernel
theorem dX2_unroll_45 : decode cX2_unroll 45 = .ok (.iload 5, 2) := by decide +kernel
theorem dX2_unroll_47 : decode cX2_unroll 47 = .ok (.ifCond .ne 17, 3) := by decide +kernel
theorem dX2_unroll_50 : decode cX2_unroll 50 = .ok (.aload_n 1, 1) := by decide +kernel
theorem dX2_unroll_51 : decode cX2_unroll 51 = .ok (.iload 4, 2) := by decide +kernel
theorem dX2_unroll_53 : decode cX2_unroll 53 = .ok (.invokestatic 22, 3) := by decide +kernel
theorem dX2_unroll_56 : decode cX2_unroll 56 = .ok (.ifCond .eq 8, 3) := by decide +kernel
theorem dX2_unroll_59 : decode cX2_unroll 59 = .ok (.iload 4, 2) := by decide +kernel
theorem dX2_unroll_61 : decode cX2_unroll 61 = .ok (.istore_n 2, 1) := by decide +kernel
theorem dX2_unroll_62 : decode cX2_unroll 62 = .ok (.iconst 1, 1) := by decide +kernel
theorem dX2_unroll_63 : decode cX2_unroll 63 = .ok (.istore_n 3, 1) := by decide +kernel
theorem dX2_unroll_64 : decode cX2_unroll 64 = .ok (.aload_n 1, 1) := by decide +kernel
theorem dX2_unroll_65 : decode cX2_unroll 65 = .ok (.iload 4, 2) := by decide +kernel
theorem dX2_unroll_67 : decode cX2_unroll 67 = .ok (.bipush 6, 2) := by decide +kernel
theorem dX2_unroll_69 : decode cX2_unroll 69 = .ok (.invokevirtual 26, 3) := by decide +kernel
theorem dX2_unroll_72 : decode cX2_unroll 72 = .ok (.istore 7, 2) := by decide +kernel
theorem dX2_unroll_74 : decode cX2_unroll 74 = .ok (.iload 7, 2) := by decide +kernel
theorem dX2_unroll_76 : decode cX2_unroll 76 = .ok (.ifCond .eq 13, 3) := by decide +kernel
theorem dX2_unroll_79 : decode cX2_unroll 79 = .ok (.iload 7, 2) := by decide +kernel
theorem dX2_unroll_81 : decode cX2_unroll 81 = .ok (.iload_n 3, 1) := by decide +kernel
theorem dX2_unroll_82 : decode cX2_unroll 82 = .ok (.if_icmp .eq 7, 3) := by decide +kernel
theorem dX2_unroll_85 : decode cX2_unroll 85 = .ok (.iconst 1, 1) := by decide +kernel
theorem dX2_unroll_86 : decode cX2_unroll 86 = .ok (.goto 4, 3) := by decide +kernel
theorem dX2_unroll_89 : decode cX2_unroll 89 = .ok (.iconst 0, 1) := by decide +kernel
theorem dX2_unroll_90 : decode cX2_unroll 90 = .ok (.istore 8, 2) := by decide +kernel
theorem dX2_unroll_92 : decode cX2_unroll 92 = .ok (.iload 8, 2) := by decide +kernel
theorem dX2_unroll_94 : decode cX2_unroll 94 = .ok (.ifCond .eq 7, 3) := by decide +kernel
theorem dX2_unroll_97 : decode cX2_unroll 97 = .ok (.iconst 0, 1) := by decide +kernel
theorem dX2_unroll_98 : decode cX2_unroll 98 = .ok (.goto 10, 3) := by decide +kernel
theorem dX2_unroll_101 : decode cX2_unroll 101 = .ok (.aload_n 1, 1) := by decide +kernel
theorem dX2_unroll_102 : decode cX2_unroll 102 = .ok (.iload 4, 2) := by decide +kernel
theorem dX2_unroll_104 : decode cX2_unroll 104 = .ok (.iconst 5, 1) := by decide +kernel
theorem dX2_unroll_105 : decode cX2_unroll 105 = .ok (.invokevirtual 26, 3) := by decide +kernel
theorem dX2_unroll_108 : decode cX2_unroll 108 = .ok (.istore 9, 2) := by decide +kernel
theorem dX2_unroll_110 : decode cX2_unroll 110 = .ok (.iload 8, 2) := by decide +kernel
theorem dX2_unroll_112 : decode cX2_unroll 112 = .ok (.ifCond .ne 24, 3) := by decide +kernel
theorem dX2_unroll_115 : decode cX2_unroll 115 = .ok (.aload_n 0, 1) := by decide +kernel
theorem dX2_unroll_116 : decode cX2_unroll 116 = .ok (.getfield 11, 3) := by decide +kernel
theorem dX2_unroll_119 : decode cX2_unroll 119 = .ok (.aload_n 0, 1) := by decide +kernel
theorem dX2_unroll_120 : decode cX2_unroll 120 = .ok (.getfield 15, 3) := by decide +kernel
theorem dX2_unroll_123 : decode cX2_unroll 123 = .ok (.iload 4, 2) := by decide +kernel
theorem dX2_unroll_125 : decode cX2_unroll 125 = .ok (.iastore, 1) := by decide +kernel
theorem dX2_unroll_126 : decode cX2_unroll 126 = .ok (.aload_n 0, 1) := by decide +kernel
theorem dX2_unroll_127 : decode cX2_unroll 127 = .ok (.dup, 1) := by decide +kernel
theorem dX2_unroll_128 : decode cX2_unroll 128 = .ok (.getfield 15, 3) := by decide +kernel
theorem dX2_unroll_131 : decode cX2_unroll 131 = .ok (.iconst 1, 1) := by decide +kernel
theorem dX2_unroll_132 : decode cX2_unroll 132 = .ok (.iadd, 1) := by decide +kernel
theorem dX2_unroll_133 : decode cX2_unroll 133 = .ok (.putfield 15, 3) := by decide +kernel
theorem dX2_unroll_136 : decode cX2_unroll 136 = .ok (.iload 9, 2) := by decide +kernel
theorem dX2_unroll_138 : decode cX2_unroll 138 = .ok (.ifCond .eq 13, 3) := by decide +kernel
theorem dX2_unroll_141 : decode cX2_unroll 141 = .ok (.iload_n 3, 1) := by decide +kernel
theorem dX2_unroll_142 : decode cX2_unroll 142 = .ok (.iload 9, 2) := by decide +kernel
theorem dX2_unroll_144 : decode cX2_unroll 144 = .ok (.if_icmp .ge 7, 3) := by decide +kernel
theorem dX2_unroll_147 : decode cX2_unroll 147 = .ok (.iconst 1, 1) := by decide +kernel
theorem dX2_unroll_148 : decode cX2_unroll 148 = .ok (.goto 4, 3) := by decide +kernel
theorem dX2_unroll_151 : decode cX2_unroll 151 = .ok (.iconst 0, 1) := by decide +kernel
theorem dX2_unroll_152 : decode cX2_unroll 152 = .ok (.istore 5, 2) := by decide +kernel
theorem dX2_unroll_154 : decode cX2_unroll 154 = .ok (.iload 5, 2) := by decide +kernel
theorem dX2_unroll_156 : decode cX2_unroll 156 = .ok (.ifCond .eq 12, 3) := by decide +kernel
theorem dX2_unroll_159 : decode cX2_unroll 159 = .ok (.iinc 3 1, 3) := by decide +kernel
theorem dX2_unroll_162 : decode cX2_unroll 162 = .ok (.iload_n 2, 1) := by decide +kernel
theorem dX2_unroll_163 : decode cX2_unroll 163 = .ok (.istore 4, 2) := by decide +kernel
theorem dX2_unroll_165 : decode cX2_unroll 165 = .ok (.goto 16, 3) := by decide +kernel
theorem dX2_unroll_168 : decode cX2_unroll 168 = .ok (.iinc 4 1, 3) := by decide +kernel
theorem dX2_unroll_171 : decode cX2_unroll 171 = .ok (.iload 9, 2) := by decide +kernel
theorem dX2_unroll_173 : decode cX2_unroll 173 = .ok (.ifCond .eq 8, 3) := by decide +kernel
theorem dX2_unroll_176 : decode cX2_unroll 176 = .ok (.iconst 1, 1) := by decide +kernel
theorem dX2_unroll_177 : decode cX2_unroll 177 = .ok (.istore_n 3, 1) := by decide +kernel
theorem dX2_unroll_178 : decode cX2_unroll 178 = .ok (.iload 4, 2) := by decide +kernel
theorem dX2_unroll_180 : decode cX2_unroll 180 = .ok (.istore_n 2, 1) := by decide +kernel
theorem dX2_unroll_181 : decode cX2_unroll 181 = .ok (.iinc 6 1, 3) := by decide +kernel
theorem dX2_unroll_184 : decode cX2_unroll 184 = .ok (.goto (-166), 3) := by decide +kernel
theorem dX2_unroll_187 : decode cX2_unroll 187 = .ok (.return_, 1) := by decide +kernel
theorem dX2_beginsAnew_0 : decode cX2_beginsAnew 0 = .ok (.aload_n 0, 1) := by decide +kernel
theorem dX2_beginsAnew_1 : decode cX2_beginsAnew 1 = .ok (.iload_n 1, 1) := by decide +kernel
theorem dX2_beginsAnew_2 : decode cX2_beginsAnew 2 = .ok (.iconst 4, 1) := by decide +kernel
theorem dX2_beginsAnew_3 : decode cX2_beginsAnew 3 = .ok (.invokevirtual 26, 3) := by decide +kernel
theorem dX2_beginsAnew_6 : decode cX2_beginsAnew 6 = .ok (.iconst 1, 1) := by decide +kernel
theorem dX2_beginsAnew_7 : decode cX2_beginsAnew 7 = .ok (.if_icmp .eq 25, 3) := by decide +kernel
theorem dX2_beginsAnew_10 : decode cX2_beginsAnew 10 = .ok (.aload_n 0, 1) := by decide +kernel
theorem dX2_beginsAnew_11 : decode cX2_beginsAnew 11 = .ok (.iload_n 1, 1) := by decide +kernel
theorem dX2_beginsAnew_12 : decode cX2_beginsAnew 12 = .ok (.bipush 6, 2) := by decide +kernel
theorem dX2_beginsAnew_14 : decode cX2_beginsAnew 14 = .ok (.invokevirtual 26, 3) := by decide +kernel
theorem dX2_beginsAnew_17 : decode cX2_beginsAnew 17 = .ok (.ifCond .ne 19, 3) := by decide +kernel
theorem dX2_beginsAnew_20 : decode cX2_beginsAnew 20 = .ok (.aload_n 0, 1) := by decide +kernel
theorem dX2_beginsAnew_21 : decode cX2_beginsAnew 21 = .ok (.iload_n 1, 1) := by decide +kernel
theorem dX2_beginsAnew_22 : decode cX2_beginsAnew 22 = .ok (.iconst 1, 1) := by decide +kernel
theorem dX2_beginsAnew_23 : decode cX2_beginsAnew 23 = .ok (.isub, 1) := by decide +kernel
theorem dX2_beginsAnew_24 : decode cX2_beginsAnew 24 = .ok (.bipush 6, 2) := by decide +kernel
theorem dX2_beginsAnew_26 : decode cX2_beginsAnew 26 = .ok (.invokevirtual 26, 3) := by decide +kernel
theorem dX2_beginsAnew_29 : decode cX2_beginsAnew 29 = .ok (.ifCond .eq 7, 3) := by decide +kernel
theorem dX2_beginsAnew_32 : decode cX2_beginsAnew 32 = .ok (.iconst 1, 1) := by decide +kernel
theorem dX2_beginsAnew_33 : decode cX2_beginsAnew 33 = .ok (.goto 4, 3) := by decide +kernel
theorem dX2_beginsAnew_36 : decode cX2_beginsAnew 36 = .ok (.iconst 0, 1) := by decide +kernel
theorem dX2_beginsAnew_37 : decode cX2_beginsAnew 37 = .ok (.ireturn, 1) := by decide +kernel
theorem dX2_ticks_0 : decode cX2_ticks 0 = .ok (.iconst 0, 1) := by decide +kernel
theorem dX2_ticks_1 : decode cX2_ticks 1 = .ok (.istore_n 2, 1) := by decide +kernel
theorem dX2_ticks_2 : decode cX2_ticks 2 = .ok (.iconst 0, 1) := by decide +kernel
theorem dX2_ticks_3 : decode cX2_ticks 3 = .ok (.istore_n 3, 1) := by decide +kernel
theorem dX2_ticks_4 : decode cX2_ticks 4 = .ok (.iload_n 3, 1) := by decide +kernel
theorem dX2_ticks_5 : decode cX2_ticks 5 = .ok (.aload_n 0, 1) := by decide +kernel
theorem dX2_ticks_6 : decode cX2_ticks 6 = .ok (.getfield 15, 3) := by decide +kernel
theorem dX2_ticks_9 : decode cX2_ticks 9 = .ok (.if_icmp .ge 21, 3) := by decide +kernel
theorem dX2_ticks_12 : decode cX2_ticks 12 = .ok (.iload_n 2, 1) := by decide +kernel
theorem dX2_ticks_13 : decode cX2_ticks 13 = .ok (.aload_n 1, 1) := by decide +kernel
theorem dX2_ticks_14 : decode cX2_ticks 14 = .ok (.aload_n 0, 1) := by decide +kernel
theorem dX2_ticks_15 : decode cX2_ticks 15 = .ok (.iload_n 3, 1) := by decide +kernel
theorem dX2_ticks_16 : decode cX2_ticks 16 = .ok (.invokevirtual 30, 3) := by decide +kernel
theorem dX2_ticks_19 : decode cX2_ticks 19 = .ok (.invokevirtual 34, 3) := by decide +kernel
theorem dX2_ticks_22 : decode cX2_ticks 22 = .ok (.iadd, 1) := by decide +kernel
theorem dX2_ticks_23 : decode cX2_ticks 23 = .ok (.istore_n 2, 1) := by decide +kernel
theorem dX2_ticks_24 : decode cX2_ticks 24 = .ok (.iinc 3 1, 3) := by decide +kernel
theorem dX2_ticks_27 : decode cX2_ticks 27 = .ok (.goto (-23), 3) := by decide +kernel
theorem dX2_ticks_30 : decode cX2_ticks 30 = .ok (.iload_n 2, 1) := by decide +kernel
theorem dX2_ticks_31 : decode cX2_ticks 31 = .ok (.ireturn, 1) := by decide +kernel
theorem dX2_timesOf_0 : decode cX2_timesOf 0 = .ok (.iconst 0, 1) := by decide +kernel
theorem dX2_timesOf_1 : decode cX2_timesOf 1 = .ok (.istore_n 2, 1) := by decide +kernel
theorem dX2_timesOf_2 : decode cX2_timesOf 2 = .ok (.iconst 0, 1) := by decide +kernel
theorem dX2_timesOf_3 : decode cX2_timesOf 3 = .ok (.istore_n 3, 1) := by decide +kernel
theorem dX2_timesOf_4 : decode cX2_timesOf 4 = .ok (.iload_n 3, 1) := by decide +kernel
theorem dX2_timesOf_5 : decode cX2_timesOf 5 = .ok (.aload_n 0, 1) := by decide +kernel
theorem dX2_timesOf_6 : decode cX2_timesOf 6 = .ok (.getfield 15, 3) := by decide +kernel
theorem dX2_timesOf_9 : decode cX2_timesOf 9 = .ok (.if_icmp .ge 26, 3) := by decide +kernel
theorem dX2_timesOf_12 : decode cX2_timesOf 12 = .ok (.iload_n 2, 1) := by decide +kernel
theorem dX2_timesOf_13 : decode cX2_timesOf 13 = .ok (.aload_n 0, 1) := by decide +kernel
theorem dX2_timesOf_14 : decode cX2_timesOf 14 = .ok (.iload_n 3, 1) := by decide +kernel
theorem dX2_timesOf_15 : decode cX2_timesOf 15 = .ok (.invokevirtual 30, 3) := by decide +kernel
theorem dX2_timesOf_18 : decode cX2_timesOf 18 = .ok (.iload_n 1, 1) := by decide +kernel
theorem dX2_timesOf_19 : decode cX2_timesOf 19 = .ok (.if_icmp .ne 7, 3) := by decide +kernel
theorem dX2_timesOf_22 : decode cX2_timesOf 22 = .ok (.iconst 1, 1) := by decide +kernel
theorem dX2_timesOf_23 : decode cX2_timesOf 23 = .ok (.goto 4, 3) := by decide +kernel
theorem dX2_timesOf_26 : decode cX2_timesOf 26 = .ok (.iconst 0, 1) := by decide +kernel
theorem dX2_timesOf_27 : decode cX2_timesOf 27 = .ok (.iadd, 1) := by decide +kernel
theorem dX2_timesOf_28 : decode cX2_timesOf 28 = .ok (.istore_n 2, 1) := by decide +kernel
theorem dX2_timesOf_29 : decode cX2_timesOf 29 = .ok (.iinc 3 1, 3) := by decide +kernel
theorem dX2_timesOf_32 : decode cX2_timesOf 32 = .ok (.goto (-28), 3) := by decide +kernel
theorem dX2_timesOf_35 : decode cX2_timesOf 35 = .ok (.iload_n 2, 1) := by decide +kernel
theorem dX2_timesOf_36 : decode cX2_timesOf 36 = .ok (.ireturn, 1) := by decide +kernel
theorem dX2_secondsUpTo_0 : decode cX2_secondsUpTo 0 = .ok (.fconst 0, 1) := by decide +kernel
theorem dX2_secondsUpTo_1 : decode cX2_secondsUpTo 1 = .ok (.fstore_n 3, 1) := by decide +kernel
theorem dX2_secondsUpTo_2 : decode cX2_secondsUpTo 2 = .ok (.iconst 0, 1) := by decide +kernel
theorem dX2_secondsUpTo_3 : decode cX2_secondsUpTo 3 = .ok (.istore 4, 2) := by decide +kernel
theorem dX2_secondsUpTo_5 : decode cX2_secondsUpTo 5 = .ok (.iload 4, 2) := by decide +kernel
theorem dX2_secondsUpTo_7 : decode cX2_secondsUpTo 7 = .ok (.iload_n 2, 1) := by decide +kernel
theorem dX2_secondsUpTo_8 : decode cX2_secondsUpTo 8 = .ok (.if_icmp .ge 28, 3) := by decide +kernel
theorem dX2_secondsUpTo_11 : decode cX2_secondsUpTo 11 = .ok (.iload 4, 2) := by decide +kernel
theorem dX2_secondsUpTo_13 : decode cX2_secondsUpTo 13 = .ok (.aload_n 0, 1) := by decide +kernel
theorem dX2_secondsUpTo_14 : decode cX2_secondsUpTo 14 = .ok (.getfield 15, 3) := by decide +kernel
theorem dX2_secondsUpTo_17 : decode cX2_secondsUpTo 17 = .ok (.if_icmp .ge 19, 3) := by decide +kernel
theorem dX2_secondsUpTo_20 : decode cX2_secondsUpTo 20 = .ok (.fload_n 3, 1) := by decide +kernel
theorem dX2_secondsUpTo_21 : decode cX2_secondsUpTo 21 = .ok (.aload_n 0, 1) := by decide +kernel
theorem dX2_secondsUpTo_22 : decode cX2_secondsUpTo 22 = .ok (.aload_n 1, 1) := by decide +kernel
theorem dX2_secondsUpTo_23 : decode cX2_secondsUpTo 23 = .ok (.iload 4, 2) := by decide +kernel
theorem dX2_secondsUpTo_25 : decode cX2_secondsUpTo 25 = .ok (.invokevirtual 37, 3) := by decide +kernel
theorem dX2_secondsUpTo_28 : decode cX2_secondsUpTo 28 = .ok (.fadd, 1) := by decide +kernel
theorem dX2_secondsUpTo_29 : decode cX2_secondsUpTo 29 = .ok (.fstore_n 3, 1) := by decide +kernel
theorem dX2_secondsUpTo_30 : decode cX2_secondsUpTo 30 = .ok (.iinc 4 1, 3) := by decide +kernel
theorem dX2_secondsUpTo_33 : decode cX2_secondsUpTo 33 = .ok (.goto (-28), 3) := by decide +kernel
theorem dX2_secondsUpTo_36 : decode cX2_secondsUpTo 36 = .ok (.fload_n 3, 1) := by decide +kernel
theorem dX2_secondsUpTo_37 : decode cX2_secondsUpTo 37 = .ok (.freturn, 1) := by decide +kernel
theorem dX2_placesBegunBy_0 : decode cX2_placesBegunBy 0 = .ok (.iconst 0, 1) := by decide +kernel
theorem dX2_placesBegunBy_1 : decode cX2_placesBegunBy 1 = .ok (.istore_n 3, 1) := by decide +kernel
theorem dX2_placesBegunBy_2 : decode cX2_placesBegunBy 2 = .ok (.fconst 0, 1) := by decide +kernel
theorem dX2_placesBegunBy_3 : decode cX2_placesBegunBy 3 = .ok (.fstore 4, 2) := by decide +kernel
theorem dX2_placesBegunBy_5 : decode cX2_placesBegunBy 5 = .ok (.iconst 0, 1) := by decide +kernel
theorem dX2_placesBegunBy_6 : decode cX2_placesBegunBy 6 = .ok (.istore 5, 2) := by decide +kernel
theorem dX2_placesBegunBy_8 : decode cX2_placesBegunBy 8 = .ok (.iload 5, 2) := by decide +kernel
theorem dX2_placesBegunBy_10 : decode cX2_placesBegunBy 10 = .ok (.aload_n 0, 1) := by decide +kernel
theorem dX2_placesBegunBy_11 : decode cX2_placesBegunBy 11 = .ok (.getfield 15, 3) := by decide +kernel
theorem dX2_placesBegunBy_14 : decode cX2_placesBegunBy 14 = .ok (.if_icmp .gt 44, 3) := by decide +kernel
theorem dX2_placesBegunBy_17 : decode cX2_placesBegunBy 17 = .ok (.fload 4, 2) := by decide +kernel
theorem dX2_placesBegunBy_19 : decode cX2_placesBegunBy 19 = .ok (.fload_n 2, 1) := by decide +kernel
theorem dX2_placesBegunBy_20 : decode cX2_placesBegunBy 20 = .ok (.fcmp .g, 1) := by decide +kernel
theorem dX2_placesBegunBy_21 : decode cX2_placesBegunBy 21 = .ok (.ifCond .gt 37, 3) := by decide +kernel
theorem dX2_placesBegunBy_24 : decode cX2_placesBegunBy 24 = .ok (.iinc 3 1, 3) := by decide +kernel
theorem dX2_placesBegunBy_27 : decode cX2_placesBegunBy 27 = .ok (.fload 4, 2) := by decide +kernel
theorem dX2_placesBegunBy_29 : decode cX2_placesBegunBy 29 = .ok (.iload 5, 2) := by decide +kernel
theorem dX2_placesBegunBy_31 : decode cX2_placesBegunBy 31 = .ok (.aload_n 0, 1) := by decide +kernel
theorem dX2_placesBegunBy_32 : decode cX2_placesBegunBy 32 = .ok (.getfield 15, 3) := by decide +kernel
theorem dX2_placesBegunBy_35 : decode cX2_placesBegunBy 35 = .ok (.if_icmp .ge 13, 3) := by decide +kernel
theorem dX2_placesBegunBy_38 : decode cX2_placesBegunBy 38 = .ok (.aload_n 0, 1) := by decide +kernel
theorem dX2_placesBegunBy_39 : decode cX2_placesBegunBy 39 = .ok (.aload_n 1, 1) := by decide +kernel
theorem dX2_placesBegunBy_40 : decode cX2_placesBegunBy 40 = .ok (.iload 5, 2) := by decide +kernel
theorem dX2_placesBegunBy_42 : decode cX2_placesBegunBy 42 = .ok (.invokevirtual 37, 3) := by decide +kernel
theorem dX2_placesBegunBy_45 : decode cX2_placesBegunBy 45 = .ok (.goto 4, 3) := by decide +kernel
theorem dX2_placesBegunBy_48 : decode cX2_placesBegunBy 48 = .ok (.fconst 0, 1) := by decide +kernel
theorem dX2_placesBegunBy_49 : decode cX2_placesBegunBy 49 = .ok (.fadd, 1) := by decide +kernel
theorem dX2_placesBegunBy_50 : decode cX2_placesBegunBy 50 = .ok (.fstore 4, 2) := by decide +kernel
theorem dX2_placesBegunBy_52 : decode cX2_placesBegunBy 52 = .ok (.iinc 5 1, 3) := by decide +kernel
theorem dX2_placesBegunBy_55 : decode cX2_placesBegunBy 55 = .ok (.goto (-47), 3) := by decide +kernel
theorem dX2_placesBegunBy_58 : decode cX2_placesBegunBy 58 = .ok (.iload_n 3, 1) := by decide +kernel
theorem dX2_placesBegunBy_59 : decode cX2_placesBegunBy 59 = .ok (.ireturn, 1) := by decide +kernel
theorem dX2_secondsOf_0 : decode cX2_secondsOf 0 = .ok (.aload_n 0, 1) := by decide +kernel
theorem dX2_secondsOf_1 : decode cX2_secondsOf 1 = .ok (.iload_n 2, 1) := by decide +kernel
theorem dX2_secondsOf_2 : decode cX2_secondsOf 2 = .ok (.invokevirtual 30, 3) := by decide +kernel
theorem dX2_secondsOf_5 : decode cX2_secondsOf 5 = .ok (.istore_n 3, 1) := by decide +kernel
theorem dX2_secondsOf_6 : decode cX2_secondsOf 6 = .ok (.aload_n 1, 1) := by decide +kernel
theorem dX2_secondsOf_7 : decode cX2_secondsOf 7 = .ok (.iload_n 3, 1) := by decide +kernel
theorem dX2_secondsOf_8 : decode cX2_secondsOf 8 = .ok (.iconst 3, 1) := by decide +kernel
theorem dX2_secondsOf_9 : decode cX2_secondsOf 9 = .ok (.invokevirtual 26, 3) := by decide +kernel
theorem dX2_secondsOf_12 : decode cX2_secondsOf 12 = .ok (.i2f, 1) := by decide +kernel
theorem dX2_secondsOf_13 : decode cX2_secondsOf 13 = .ok (.fstore 4, 2) := by decide +kernel
theorem dX2_secondsOf_15 : decode cX2_secondsOf 15 = .ok (.fload 4, 2) := by decide +kernel
theorem dX2_secondsOf_17 : decode cX2_secondsOf 17 = .ok (.fconst 0, 1) := by decide +kernel
theorem dX2_secondsOf_18 : decode cX2_secondsOf 18 = .ok (.fcmp .l, 1) := by decide +kernel
theorem dX2_secondsOf_19 : decode cX2_secondsOf 19 = .ok (.ifCond .le 21, 3) := by decide +kernel
theorem dX2_secondsOf_22 : decode cX2_secondsOf 22 = .ok (.aload_n 1, 1) := by decide +kernel
theorem dX2_secondsOf_23 : decode cX2_secondsOf 23 = .ok (.iload_n 3, 1) := by decide +kernel
theorem dX2_secondsOf_24 : decode cX2_secondsOf 24 = .ok (.invokevirtual 34, 3) := by decide +kernel
theorem dX2_secondsOf_27 : decode cX2_secondsOf 27 = .ok (.i2f, 1) := by decide +kernel
theorem dX2_secondsOf_28 : decode cX2_secondsOf 28 = .ok (.ldc 41, 2) := by decide +kernel
theorem dX2_secondsOf_30 : decode cX2_secondsOf 30 = .ok (.ldc 42, 2) := by decide +kernel
theorem dX2_secondsOf_32 : decode cX2_secondsOf 32 = .ok (.fload 4, 2) := by decide +kernel
theorem dX2_secondsOf_34 : decode cX2_secondsOf 34 = .ok (.fmul, 1) := by decide +kernel
theorem dX2_secondsOf_35 : decode cX2_secondsOf 35 = .ok (.fdiv, 1) := by decide +kernel
theorem dX2_secondsOf_36 : decode cX2_secondsOf 36 = .ok (.fmul, 1) := by decide +kernel
theorem dX2_secondsOf_37 : decode cX2_secondsOf 37 = .ok (.goto 4, 3) := by decide +kernel
theorem dX2_secondsOf_40 : decode cX2_secondsOf 40 = .ok (.fconst 0, 1) := by decide +kernel
theorem dX2_secondsOf_41 : decode cX2_secondsOf 41 = .ok (.freturn, 1) := by decide +kernel
theorem dX3_init_0 : decode cX3_init 0 = .ok (.aload_n 0, 1) := by decide +kernel
theorem dX3_init_1 : decode cX3_init 1 = .ok (.invokespecial 3, 3) := by decide +kernel
theorem dX3_init_4 : decode cX3_init 4 = .ok (.aload_n 0, 1) := by decide +kernel
theorem dX3_init_5 : decode cX3_init 5 = .ok (.new 9, 3) := by decide +kernel
theorem dX3_init_8 : decode cX3_init 8 = .ok (.dup, 1) := by decide +kernel
theorem dX3_init_9 : decode cX3_init 9 = .ok (.invokespecial 11, 3) := by decide +kernel
theorem dX3_init_12 : decode cX3_init 12 = .ok (.putfield 12, 3) := by decide +kernel
theorem dX3_init_15 : decode cX3_init 15 = .ok (.aload_n 0, 1) := by decide +kernel
theorem dX3_init_16 : decode cX3_init 16 = .ok (.aload_n 1, 1) := by decide +kernel
theorem dX3_init_17 : decode cX3_init 17 = .ok (.putfield 18, 3) := by decide +kernel
theorem dX3_init_20 : decode cX3_init 20 = .ok (.return_, 1) := by decide +kernel
theorem dX3_draft_0 : decode cX3_draft 0 = .ok (.aload_n 0, 1) := by decide +kernel
theorem dX3_draft_1 : decode cX3_draft 1 = .ok (.getfield 12, 3) := by decide +kernel
theorem dX3_draft_4 : decode cX3_draft 4 = .ok (.areturn, 1) := by decide +kernel
theorem dX3_findFault_0 : decode cX3_findFault 0 = .ok (.aload_n 0, 1) := by decide +kernel
theorem dX3_findFault_1 : decode cX3_findFault 1 = .ok (.getfield 12, 3) := by decide +kernel
theorem dX3_findFault_4 : decode cX3_findFault 4 = .ok (.invokevirtual 22, 3) := by decide +kernel
theorem dX3_findFault_7 : decode cX3_findFault 7 = .ok (.aload_n 0, 1) := by decide +kernel
theorem dX3_findFault_8 : decode cX3_findFault 8 = .ok (.sipush (-1000), 3) := by decide +kernel
theorem dX3_findFault_11 : decode cX3_findFault 11 = .ok (.putfield 25, 3) := by decide +kernel
theorem dX3_findFault_14 : decode cX3_findFault 14 = .ok (.aload_n 0, 1) := by decide +kernel
theorem dX3_findFault_15 : decode cX3_findFault 15 = .ok (.iconst 0, 1) := by decide +kernel
theorem dX3_findFault_16 : decode cX3_findFault 16 = .ok (.putfield 29, 3) := by decide +kernel
theorem dX3_findFault_19 : decode cX3_findFault 19 = .ok (.aload_n 0, 1) := by decide +kernel
theorem dX3_findFault_20 : decode cX3_findFault 20 = .ok (.invokevirtual 32, 3) := by decide +kernel
theorem dX3_findFault_23 : decode cX3_findFault 23 = .ok (.aload_n 0, 1) := by decide +kernel
theorem dX3_findFault_24 : decode cX3_findFault 24 = .ok (.invokevirtual 35, 3) := by decide +kernel
theorem dX3_findFault_27 : decode cX3_findFault 27 = .ok (.aload_n 0, 1) := by decide +kernel
theorem dX3_findFault_28 : decode cX3_findFault 28 = .ok (.ldc 40, 2) := by decide +kernel
theorem dX3_findFault_30 : decode cX3_findFault 30 = .ok (.invokevirtual 42, 3) := by decide +kernel
theorem dX3_findFault_33 : decode cX3_findFault 33 = .ok (.ifCond .eq 43, 3) := by decide +kernel
theorem dX3_findFault_36 : decode cX3_findFault 36 = .ok (.aload_n 0, 1) := by decide +kernel
theorem dX3_findFault_37 : decode cX3_findFault 37 = .ok (.iconst 1, 1) := by decide +kernel
theorem dX3_findFault_38 : decode cX3_findFault 38 = .ok (.iconst 2, 1) := by decide +kernel
theorem dX3_findFault_39 : decode cX3_findFault 39 = .ok (.invokevirtual 46, 3) := by decide +kernel
theorem dX3_findFault_42 : decode cX3_findFault 42 = .ok (.istore_n 1, 1) := by decide +kernel
theorem dX3_findFault_43 : decode cX3_findFault 43 = .ok (.aload_n 0, 1) := by decide +kernel
theorem dX3_findFault_44 : decode cX3_findFault 44 = .ok (.iload_n 1, 1) := by decide +kernel
theorem dX3_findFault_45 : decode cX3_findFault 45 = .ok (.iconst 1, 1) := by decide +kernel
theorem dX3_findFault_46 : decode cX3_findFault 46 = .ok (.isub, 1) := by decide +kernel
theorem dX3_findFault_47 : decode cX3_findFault 47 = .ok (.invokevirtual 50, 3) := by decide +kernel
theorem dX3_findFault_50 : decode cX3_findFault 50 = .ok (.iload_n 1, 1) := by decide +kernel
theorem dX3_findFault_51 : decode cX3_findFault 51 = .ok (.iconst 1, 1) := by decide +kernel
theorem dX3_findFault_52 : decode cX3_findFault 52 = .ok (.if_icmp .ne 24, 3) := by decide +kernel
theorem dX3_findFault_55 : decode cX3_findFault 55 = .ok (.aload_n 0, 1) := by decide +kernel
theorem dX3_findFault_56 : decode cX3_findFault 56 = .ok (.ldc 40, 2) := by decide +kernel
theorem dX3_findFault_58 : decode cX3_findFault 58 = .ok (.invokevirtual 42, 3) := by decide +kernel
theorem dX3_findFault_61 : decode cX3_findFault 61 = .ok (.ifCond .eq 15, 3) := by decide +kernel
theorem dX3_findFault_64 : decode cX3_findFault 64 = .ok (.aload_n 0, 1) := by decide +kernel
theorem dX3_findFault_65 : decode cX3_findFault 65 = .ok (.aload_n 0, 1) := by decide +kernel
theorem dX3_findFault_66 : decode cX3_findFault 66 = .ok (.iconst 2, 1) := by decide +kernel
theorem dX3_findFault_67 : decode cX3_findFault 67 = .ok (.iconst 2, 1) := by decide +kernel
theorem dX3_findFault_68 : decode cX3_findFault 68 = .ok (.invokevirtual 46, 3) := by decide +kernel
theorem dX3_findFault_71 : decode cX3_findFault 71 = .ok (.iconst 1, 1) := by decide +kernel
theorem dX3_findFault_72 : decode cX3_findFault 72 = .ok (.isub, 1) := by decide +kernel
theorem dX3_findFault_73 : decode cX3_findFault 73 = .ok (.invokevirtual 50, 3) := by decide +kernel
theorem dX3_findFault_76 : decode cX3_findFault 76 = .ok (.aload_n 0, 1) := by decide +kernel
theorem dX3_findFault_77 : decode cX3_findFault 77 = .ok (.ldc 54, 2) := by decide +kernel
theorem dX3_findFault_79 : decode cX3_findFault 79 = .ok (.invokevirtual 42, 3) := by decide +kernel
theorem dX3_findFault_82 : decode cX3_findFault 82 = .ok (.ifCond .eq 18, 3) := by decide +kernel
theorem dX3_findFault_85 : decode cX3_findFault 85 = .ok (.aload_n 0, 1) := by decide +kernel
theorem dX3_findFault_86 : decode cX3_findFault 86 = .ok (.getfield 12, 3) := by decide +kernel
theorem dX3_findFault_89 : decode cX3_findFault 89 = .ok (.iconst 0, 1) := by decide +kernel
theorem dX3_findFault_90 : decode cX3_findFault 90 = .ok (.iconst 5, 1) := by decide +kernel
theorem dX3_findFault_91 : decode cX3_findFault 91 = .ok (.aload_n 0, 1) := by decide +kernel
theorem dX3_findFault_92 : decode cX3_findFault 92 = .ok (.iconst 2, 1) := by decide +kernel
theorem dX3_findFault_93 : decode cX3_findFault 93 = .ok (.iconst 4, 1) := by decide +kernel
theorem dX3_findFault_94 : decode cX3_findFault 94 = .ok (.invokevirtual 46, 3) := by decide +kernel
theorem dX3_findFault_97 : decode cX3_findFault 97 = .ok (.invokevirtual 56, 3) := by decide +kernel
theorem dX3_findFault_100 : decode cX3_findFault 100 = .ok (.aload_n 0, 1) := by decide +kernel
theorem dX3_findFault_101 : decode cX3_findFault 101 = .ok (.ldc 60, 2) := by decide +kernel
theorem dX3_findFault_103 : decode cX3_findFault 103 = .ok (.invokevirtual 62, 3) := by decide +kernel
theorem dX3_findFault_106 : decode cX3_findFault 106 = .ok (.aload_n 0, 1) := by decide +kernel
theorem dX3_findFault_107 : decode cX3_findFault 107 = .ok (.getfield 66, 3) := by decide +kernel
theorem dX3_findFault_110 : decode cX3_findFault 110 = .ok (.aload_n 0, 1) := by decide +kernel
theorem dX3_findFault_111 : decode cX3_findFault 111 = .ok (.getfield 29, 3) := by decide +kernel
theorem dX3_findFault_114 : decode cX3_findFault 114 = .ok (.if_icmp .ge 7, 3) := by decide +kernel
theorem dX3_findFault_117 : decode cX3_findFault 117 = .ok (.aload_n 0, 1) := by decide +kernel
theorem dX3_findFault_118 : decode cX3_findFault 118 = .ok (.invokevirtual 69, 3) := by decide +kernel
theorem dX3_findFault_121 : decode cX3_findFault 121 = .ok (.aload_n 0, 1) := by decide +kernel
theorem dX3_findFault_122 : decode cX3_findFault 122 = .ok (.getfield 25, 3) := by decide +kernel
theorem dX3_findFault_125 : decode cX3_findFault 125 = .ok (.ireturn, 1) := by decide +kernel
theorem dX3_readHead_0 : decode cX3_readHead 0 = .ok (.aload_n 0, 1) := by decide +kernel
theorem dX3_readHead_1 : decode cX3_readHead 1 = .ok (.ldc 72, 2) := by decide +kernel
theorem dX3_readHead_3 : decode cX3_readHead 3 = .ok (.invokevirtual 62, 3) := by decide +kernel
theorem dX3_readHead_6 : decode cX3_readHead 6 = .ok (.aload_n 0, 1) := by decide +kernel
theorem dX3_readHead_7 : decode cX3_readHead 7 = .ok (.iconst 0, 1) := by decide +kernel
theorem dX3_readHead_8 : decode cX3_readHead 8 = .ok (.sipush 999, 3) := by decide +kernel
theorem dX3_readHead_11 : decode cX3_readHead 11 = .ok (.invokevirtual 46, 3) := by decide +kernel
theorem dX3_readHead_14 : decode cX3_readHead 14 = .ok (.pop, 1) := by decide +kernel
theorem dX3_readHead_15 : decode cX3_readHead 15 = .ok (.aload_n 0, 1) := by decide +kernel
theorem dX3_readHead_16 : decode cX3_readHead 16 = .ok (.getfield 12, 3) := by decide +kernel
theorem dX3_readHead_19 : decode cX3_readHead 19 = .ok (.iconst 0, 1) := by decide +kernel
theorem dX3_readHead_20 : decode cX3_readHead 20 = .ok (.iconst 4, 1) := by decide +kernel
theorem dX3_readHead_21 : decode cX3_readHead 21 = .ok (.aload_n 0, 1) := by decide +kernel
theorem dX3_readHead_22 : decode cX3_readHead 22 = .ok (.ldc 74, 2) := by decide +kernel
theorem dX3_readHead_24 : decode cX3_readHead 24 = .ok (.invokevirtual 42, 3) := by decide +kernel
theorem dX3_readHead_27 : decode cX3_readHead 27 = .ok (.ifCond .eq 7, 3) := by decide +kernel
theorem dX3_readHead_30 : decode cX3_readHead 30 = .ok (.iconst 1, 1) := by decide +kernel
theorem dX3_readHead_31 : decode cX3_readHead 31 = .ok (.goto 4, 3) := by decide +kernel
theorem dX3_readHead_34 : decode cX3_readHead 34 = .ok (.iconst 0, 1) := by decide +kernel
theorem dX3_readHead_35 : decode cX3_readHead 35 = .ok (.invokevirtual 56, 3) := by decide +kernel
theorem dX3_readHead_38 : decode cX3_readHead 38 = .ok (.aload_n 0, 1) := by decide +kernel
theorem dX3_readHead_39 : decode cX3_readHead 39 = .ok (.ldc 76, 2) := by decide +kernel
theorem dX3_readHead_41 : decode cX3_readHead 41 = .ok (.invokevirtual 42, 3) := by decide +kernel
theorem dX3_readHead_44 : decode cX3_readHead 44 = .ok (.ifCond .eq 19, 3) := by decide +kernel
theorem dX3_readHead_47 : decode cX3_readHead 47 = .ok (.aload_n 0, 1) := by decide +kernel
theorem dX3_readHead_48 : decode cX3_readHead 48 = .ok (.getfield 12, 3) := by decide +kernel
theorem dX3_readHead_51 : decode cX3_readHead 51 = .ok (.iconst 0, 1) := by decide +kernel
theorem dX3_readHead_52 : decode cX3_readHead 52 = .ok (.bipush 6, 2) := by decide +kernel
theorem dX3_readHead_54 : decode cX3_readHead 54 = .ok (.aload_n 0, 1) := by decide +kernel
theorem dX3_readHead_55 : decode cX3_readHead 55 = .ok (.iconst 1, 1) := by decide +kernel
theorem dX3_readHead_56 : decode cX3_readHead 56 = .ok (.iconst 4, 1) := by decide +kernel
theorem dX3_readHead_57 : decode cX3_readHead 57 = .ok (.invokevirtual 46, 3) := by decide +kernel
theorem dX3_readHead_60 : decode cX3_readHead 60 = .ok (.invokevirtual 56, 3) := by decide +kernel
theorem dX3_readHead_63 : decode cX3_readHead 63 = .ok (.aload_n 0, 1) := by decide +kernel
theorem dX3_readHead_64 : decode cX3_readHead 64 = .ok (.ldc 78, 2) := by decide +kernel
theorem dX3_readHead_66 : decode cX3_readHead 66 = .ok (.invokevirtual 42, 3) := by decide +kernel
theorem dX3_readHead_69 : decode cX3_readHead 69 = .ok (.ifCond .eq 16, 3) := by decide +kernel
theorem dX3_readHead_72 : decode cX3_readHead 72 = .ok (.aload_n 0, 1) := by decide +kernel
theorem dX3_readHead_73 : decode cX3_readHead 73 = .ok (.getfield 12, 3) := by decide +kernel
theorem dX3_readHead_76 : decode cX3_readHead 76 = .ok (.iconst 0, 1) := by decide +kernel
theorem dX3_readHead_77 : decode cX3_readHead 77 = .ok (.iconst 0, 1) := by decide +kernel
theorem dX3_readHead_78 : decode cX3_readHead 78 = .ok (.aload_n 0, 1) := by decide +kernel
theorem dX3_readHead_79 : decode cX3_readHead 79 = .ok (.invokevirtual 80, 3) := by decide +kernel
theorem dX3_readHead_82 : decode cX3_readHead 82 = .ok (.invokevirtual 56, 3) := by decide +kernel
theorem dX3_readHead_85 : decode cX3_readHead 85 = .ok (.aload_n 0, 1) := by decide +kernel
theorem dX3_readHead_86 : decode cX3_readHead 86 = .ok (.ldc 84, 2) := by decide +kernel
theorem dX3_readHead_88 : decode cX3_readHead 88 = .ok (.invokevirtual 42, 3) := by decide +kernel
theorem dX3_readHead_91 : decode cX3_readHead 91 = .ok (.ifCond .eq 32, 3) := by decide +kernel
theorem dX3_readHead_94 : decode cX3_readHead 94 = .ok (.aload_n 0, 1) := by decide +kernel
theorem dX3_readHead_95 : decode cX3_readHead 95 = .ok (.getfield 12, 3) := by decide +kernel
theorem dX3_readHead_98 : decode cX3_readHead 98 = .ok (.iconst 0, 1) := by decide +kernel
theorem dX3_readHead_99 : decode cX3_readHead 99 = .ok (.iconst 1, 1) := by decide +kernel
theorem dX3_readHead_100 : decode cX3_readHead 100 = .ok (.aload_n 0, 1) := by decide +kernel
theorem dX3_readHead_101 : decode cX3_readHead 101 = .ok (.iconst 1, 1) := by decide +kernel
theorem dX3_readHead_102 : decode cX3_readHead 102 = .ok (.bipush 12, 2) := by decide +kernel
theorem dX3_readHead_104 : decode cX3_readHead 104 = .ok (.invokevirtual 46, 3) := by decide +kernel
theorem dX3_readHead_107 : decode cX3_readHead 107 = .ok (.invokevirtual 56, 3) := by decide +kernel
theorem dX3_readHead_110 : decode cX3_readHead 110 = .ok (.aload_n 0, 1) := by decide +kernel
theorem dX3_readHead_111 : decode cX3_readHead 111 = .ok (.getfield 12, 3) := by decide +kernel
theorem dX3_readHead_114 : decode cX3_readHead 114 = .ok (.iconst 0, 1) := by decide +kernel
theorem dX3_readHead_115 : decode cX3_readHead 115 = .ok (.iconst 2, 1) := by decide +kernel
theorem dX3_readHead_116 : decode cX3_readHead 116 = .ok (.aload_n 0, 1) := by decide +kernel
theorem dX3_readHead_117 : decode cX3_readHead 117 = .ok (.invokevirtual 86, 3) := by decide +kernel
theorem dX3_readHead_120 : decode cX3_readHead 120 = .ok (.invokevirtual 56, 3) := by decide +kernel
theorem dX3_readHead_123 : decode cX3_readHead 123 = .ok (.return_, 1) := by decide +kernel
theorem dX3_readKey_0 : decode cX3_readKey 0 = .ok (.aload_n 0, 1) := by decide +kernel
theorem dX3_readKey_1 : decode cX3_readKey 1 = .ok (.ldc 89, 2) := by decide +kernel
theorem dX3_readKey_3 : decode cX3_readKey 3 = .ok (.invokevirtual 42, 3) := by decide +kernel
theorem dX3_readKey_6 : decode cX3_readKey 6 = .ok (.ifCond .eq 5, 3) := by decide +kernel
theorem dX3_readKey_9 : decode cX3_readKey 9 = .ok (.iconst 0, 1) := by decide +kernel
theorem dX3_readKey_10 : decode cX3_readKey 10 = .ok (.ireturn, 1) := by decide +kernel
theorem dX3_readKey_11 : decode cX3_readKey 11 = .ok (.aload_n 0, 1) := by decide +kernel
theorem dX3_readKey_12 : decode cX3_readKey 12 = .ok (.iconst 1, 1) := by decide +kernel
theorem dX3_readKey_13 : decode cX3_readKey 13 = .ok (.bipush 7, 2) := by decide +kernel
theorem dX3_readKey_15 : decode cX3_readKey 15 = .ok (.invokevirtual 46, 3) := by decide +kernel
theorem dX3_readKey_18 : decode cX3_readKey 18 = .ok (.istore_n 1, 1) := by decide +kernel
theorem dX3_readKey_19 : decode cX3_readKey 19 = .ok (.aload_n 0, 1) := by decide +kernel
theorem dX3_readKey_20 : decode cX3_readKey 20 = .ok (.ldc 91, 2) := by decide +kernel
theorem dX3_readKey_22 : decode cX3_readKey 22 = .ok (.invokevirtual 42, 3) := by decide +kernel
theorem dX3_readKey_25 : decode cX3_readKey 25 = .ok (.ifCond .eq 5, 3) := by decide +kernel
theorem dX3_readKey_28 : decode cX3_readKey 28 = .ok (.iload_n 1, 1) := by decide +kernel
theorem dX3_readKey_29 : decode cX3_readKey 29 = .ok (.ireturn, 1) := by decide +kernel
theorem dX3_readKey_30 : decode cX3_readKey 30 = .ok (.aload_n 0, 1) := by decide +kernel
theorem dX3_readKey_31 : decode cX3_readKey 31 = .ok (.ldc 93, 2) := by decide +kernel
theorem dX3_readKey_33 : decode cX3_readKey 33 = .ok (.invokevirtual 62, 3) := by decide +kernel
theorem dX3_readKey_36 : decode cX3_readKey 36 = .ok (.iload_n 1, 1) := by decide +kernel
theorem dX3_readKey_37 : decode cX3_readKey 37 = .ok (.ineg, 1) := by decide +kernel
theorem dX3_readKey_38 : decode cX3_readKey 38 = .ok (.ireturn, 1) := by decide +kernel
theorem dX3_readLower_0 : decode cX3_readLower 0 = .ok (.iconst 2, 1) := by decide +kernel
theorem dX3_readLower_1 : decode cX3_readLower 1 = .ok (.aload_n 0, 1) := by decide +kernel
theorem dX3_readLower_2 : decode cX3_readLower 2 = .ok (.invokevirtual 95, 3) := by decide +kernel
theorem dX3_readLower_5 : decode cX3_readLower 5 = .ok (.invokestatic 98, 3) := by decide +kernel
theorem dX3_readLower_8 : decode cX3_readLower 8 = .ok (.ifCond .ne 7, 3) := by decide +kernel
theorem dX3_readLower_11 : decode cX3_readLower 11 = .ok (.aload_n 0, 1) := by decide +kernel
theorem dX3_readLower_12 : decode cX3_readLower 12 = .ok (.invokevirtual 69, 3) := by decide +kernel
theorem dX3_readLower_15 : decode cX3_readLower 15 = .ok (.aload_n 0, 1) := by decide +kernel
theorem dX3_readLower_16 : decode cX3_readLower 16 = .ok (.iconst 2, 1) := by decide +kernel
theorem dX3_readLower_17 : decode cX3_readLower 17 = .ok (.bipush 16, 2) := by decide +kernel
theorem dX3_readLower_19 : decode cX3_readLower 19 = .ok (.invokevirtual 46, 3) := by decide +kernel
theorem dX3_readLower_22 : decode cX3_readLower 22 = .ok (.ireturn, 1) := by decide +kernel
theorem dX3_readEvents_0 : decode cX3_readEvents 0 = .ok (.aload_n 0, 1) := by decide +kernel
theorem dX3_readEvents_1 : decode cX3_readEvents 1 = .ok (.iload_n 1, 1) := by decide +kernel
theorem dX3_readEvents_2 : decode cX3_readEvents 2 = .ok (.invokevirtual 102, 3) := by decide +kernel
theorem dX3_readEvents_5 : decode cX3_readEvents 5 = .ok (.iconst 1, 1) := by decide +kernel
theorem dX3_readEvents_6 : decode cX3_readEvents 6 = .ok (.istore_n 2, 1) := by decide +kernel
theorem dX3_readEvents_7 : decode cX3_readEvents 7 = .ok (.iload_n 2, 1) := by decide +kernel
theorem dX3_readEvents_8 : decode cX3_readEvents 8 = .ok (.bipush 24, 2) := by decide +kernel
theorem dX3_readEvents_10 : decode cX3_readEvents 10 = .ok (.if_icmp .ge 21, 3) := by decide +kernel
theorem dX3_readEvents_13 : decode cX3_readEvents 13 = .ok (.aload_n 0, 1) := by decide +kernel
theorem dX3_readEvents_14 : decode cX3_readEvents 14 = .ok (.invokevirtual 105, 3) := by decide +kernel
theorem dX3_readEvents_17 : decode cX3_readEvents 17 = .ok (.ifCond .eq 14, 3) := by decide +kernel
theorem dX3_readEvents_20 : decode cX3_readEvents 20 = .ok (.aload_n 0, 1) := by decide +kernel
theorem dX3_readEvents_21 : decode cX3_readEvents 21 = .ok (.iload_n 1, 1) := by decide +kernel
theorem dX3_readEvents_22 : decode cX3_readEvents 22 = .ok (.invokevirtual 102, 3) := by decide +kernel
theorem dX3_readEvents_25 : decode cX3_readEvents 25 = .ok (.iinc 2 1, 3) := by decide +kernel
theorem dX3_readEvents_28 : decode cX3_readEvents 28 = .ok (.goto (-21), 3) := by decide +kernel
theorem dX3_readEvents_31 : decode cX3_readEvents 31 = .ok (.return_, 1) := by decide +kernel
theorem dX3_beginsEvent_0 : decode cX3_beginsEvent 0 = .ok (.aload_n 0, 1) := by decide +kernel
theorem dX3_beginsEvent_1 : decode cX3_beginsEvent 1 = .ok (.getfield 25, 3) := by decide +kernel
theorem dX3_beginsEvent_4 : decode cX3_beginsEvent 4 = .ok (.sipush (-1000), 3) := by decide +kernel
theorem dX3_beginsEvent_7 : decode cX3_beginsEvent 7 = .ok (.if_icmp .ne 23, 3) := by decide +kernel
theorem dX3_beginsEvent_10 : decode cX3_beginsEvent 10 = .ok (.aload_n 0, 1) := by decide +kernel
theorem dX3_beginsEvent_11 : decode cX3_beginsEvent 11 = .ok (.invokevirtual 109, 3) := by decide +kernel
theorem dX3_beginsEvent_14 : decode cX3_beginsEvent 14 = .ok (.ifCond .ge 12, 3) := by decide +kernel
theorem dX3_beginsEvent_17 : decode cX3_beginsEvent 17 = .ok (.aload_n 0, 1) := by decide +kernel
theorem dX3_beginsEvent_18 : decode cX3_beginsEvent 18 = .ok (.ldc 112, 2) := by decide +kernel
theorem dX3_beginsEvent_20 : decode cX3_beginsEvent 20 = .ok (.invokevirtual 114, 3) := by decide +kernel
theorem dX3_beginsEvent_23 : decode cX3_beginsEvent 23 = .ok (.ifCond .eq 7, 3) := by decide +kernel
theorem dX3_beginsEvent_26 : decode cX3_beginsEvent 26 = .ok (.iconst 1, 1) := by decide +kernel
theorem dX3_beginsEvent_27 : decode cX3_beginsEvent 27 = .ok (.goto 4, 3) := by decide +kernel
theorem dX3_beginsEvent_30 : decode cX3_beginsEvent 30 = .ok (.iconst 0, 1) := by decide +kernel
theorem dX3_beginsEvent_31 : decode cX3_beginsEvent 31 = .ok (.ireturn, 1) := by decide +kernel
theorem dX3_readEvent_0 : decode cX3_readEvent 0 = .ok (.aload_n 0, 1) := by decide +kernel
theorem dX3_readEvent_1 : decode cX3_readEvent 1 = .ok (.invokevirtual 105, 3) := by decide +kernel
theorem dX3_readEvent_4 : decode cX3_readEvent 4 = .ok (.ifCond .ne 8, 3) := by decide +kernel
theorem dX3_readEvent_7 : decode cX3_readEvent 7 = .ok (.aload_n 0, 1) := by decide +kernel
theorem dX3_readEvent_8 : decode cX3_readEvent 8 = .ok (.invokevirtual 69, 3) := by decide +kernel
theorem dX3_readEvent_11 : decode cX3_readEvent 11 = .ok (.return_, 1) := by decide +kernel
theorem dX3_readEvent_12 : decode cX3_readEvent 12 = .ok (.aload_n 0, 1) := by decide +kernel
theorem dX3_readEvent_13 : decode cX3_readEvent 13 = .ok (.invokevirtual 109, 3) := by decide +kernel
theorem dX3_readEvent_16 : decode cX3_readEvent 16 = .ok (.istore_n 2, 1) := by decide +kernel
theorem dX3_readEvent_17 : decode cX3_readEvent 17 = .ok (.aload_n 0, 1) := by decide +kernel
theorem dX3_readEvent_18 : decode cX3_readEvent 18 = .ok (.invokevirtual 32, 3) := by decide +kernel
theorem dX3_readEvent_21 : decode cX3_readEvent 21 = .ok (.iload_n 2, 1) := by decide +kernel
theorem dX3_readEvent_22 : decode cX3_readEvent 22 = .ok (.ifCond .ge 20, 3) := by decide +kernel
theorem dX3_readEvent_25 : decode cX3_readEvent 25 = .ok (.aload_n 0, 1) := by decide +kernel
theorem dX3_readEvent_26 : decode cX3_readEvent 26 = .ok (.getfield 12, 3) := by decide +kernel
theorem dX3_readEvent_29 : decode cX3_readEvent 29 = .ok (.iconst 0, 1) := by decide +kernel
theorem dX3_readEvent_30 : decode cX3_readEvent 30 = .ok (.iload_n 1, 1) := by decide +kernel
theorem dX3_readEvent_31 : decode cX3_readEvent 31 = .ok (.aload_n 0, 1) := by decide +kernel
theorem dX3_readEvent_32 : decode cX3_readEvent 32 = .ok (.invokevirtual 117, 3) := by decide +kernel
theorem dX3_readEvent_35 : decode cX3_readEvent 35 = .ok (.invokestatic 120, 3) := by decide +kernel
theorem dX3_readEvent_38 : decode cX3_readEvent 38 = .ok (.invokevirtual 126, 3) := by decide +kernel
theorem dX3_readEvent_41 : decode cX3_readEvent 41 = .ok (.return_, 1) := by decide +kernel
theorem dX3_readEvent_42 : decode cX3_readEvent 42 = .ok (.aload_n 0, 1) := by decide +kernel
theorem dX3_readEvent_43 : decode cX3_readEvent 43 = .ok (.invokevirtual 129, 3) := by decide +kernel
theorem dX3_readEvent_46 : decode cX3_readEvent 46 = .ok (.istore_n 3, 1) := by decide +kernel
theorem dX3_readEvent_47 : decode cX3_readEvent 47 = .ok (.bipush 7, 2) := by decide +kernel
theorem dX3_readEvent_49 : decode cX3_readEvent 49 = .ok (.aload_n 0, 1) := by decide +kernel
theorem dX3_readEvent_50 : decode cX3_readEvent 50 = .ok (.iconst 0, 1) := by decide +kernel
theorem dX3_readEvent_51 : decode cX3_readEvent 51 = .ok (.bipush 8, 2) := by decide +kernel
theorem dX3_readEvent_53 : decode cX3_readEvent 53 = .ok (.invokevirtual 46, 3) := by decide +kernel
theorem dX3_readEvent_56 : decode cX3_readEvent 56 = .ok (.imul, 1) := by decide +kernel
theorem dX3_readEvent_57 : decode cX3_readEvent 57 = .ok (.iload_n 2, 1) := by decide +kernel
theorem dX3_readEvent_58 : decode cX3_readEvent 58 = .ok (.iadd, 1) := by decide +kernel
theorem dX3_readEvent_59 : decode cX3_readEvent 59 = .ok (.istore 4, 2) := by decide +kernel
theorem dX3_readEvent_61 : decode cX3_readEvent 61 = .ok (.aload_n 0, 1) := by decide +kernel
theorem dX3_readEvent_62 : decode cX3_readEvent 62 = .ok (.invokevirtual 117, 3) := by decide +kernel
theorem dX3_readEvent_65 : decode cX3_readEvent 65 = .ok (.istore 5, 2) := by decide +kernel
theorem dX3_readEvent_67 : decode cX3_readEvent 67 = .ok (.aload_n 0, 1) := by decide +kernel
theorem dX3_readEvent_68 : decode cX3_readEvent 68 = .ok (.getfield 12, 3) := by decide +kernel
theorem dX3_readEvent_71 : decode cX3_readEvent 71 = .ok (.iconst 0, 1) := by decide +kernel
theorem dX3_readEvent_72 : decode cX3_readEvent 72 = .ok (.iload_n 1, 1) := by decide +kernel
theorem dX3_readEvent_73 : decode cX3_readEvent 73 = .ok (.iload 4, 2) := by decide +kernel
theorem dX3_readEvent_75 : decode cX3_readEvent 75 = .ok (.iload_n 3, 1) := by decide +kernel
theorem dX3_readEvent_76 : decode cX3_readEvent 76 = .ok (.iload 5, 2) := by decide +kernel
theorem dX3_readEvent_78 : decode cX3_readEvent 78 = .ok (.aload_n 0, 1) := by decide +kernel
theorem dX3_readEvent_79 : decode cX3_readEvent 79 = .ok (.ldc 132, 2) := by decide +kernel
theorem dX3_readEvent_81 : decode cX3_readEvent 81 = .ok (.invokevirtual 42, 3) := by decide +kernel
theorem dX3_readEvent_84 : decode cX3_readEvent 84 = .ok (.invokestatic 134, 3) := by decide +kernel
theorem dX3_readEvent_87 : decode cX3_readEvent 87 = .ok (.invokevirtual 126, 3) := by decide +kernel
theorem dX3_readEvent_90 : decode cX3_readEvent 90 = .ok (.return_, 1) := by decide +kernel
theorem dX3_readSign_0 : decode cX3_readSign 0 = .ok (.iconst 1, 1) := by decide +kernel
theorem dX3_readSign_1 : decode cX3_readSign 1 = .ok (.istore_n 1, 1) := by decide +kernel
theorem dX3_readSign_2 : decode cX3_readSign 2 = .ok (.iload_n 1, 1) := by decide +kernel
theorem dX3_readSign_3 : decode cX3_readSign 3 = .ok (.iconst 3, 1) := by decide +kernel
theorem dX3_readSign_4 : decode cX3_readSign 4 = .ok (.if_icmp .gt 22, 3) := by decide +kernel
theorem dX3_readSign_7 : decode cX3_readSign 7 = .ok (.aload_n 0, 1) := by decide +kernel
theorem dX3_readSign_8 : decode cX3_readSign 8 = .ok (.iload_n 1, 1) := by decide +kernel
theorem dX3_readSign_9 : decode cX3_readSign 9 = .ok (.invokestatic 138, 3) := by decide +kernel
theorem dX3_readSign_12 : decode cX3_readSign 12 = .ok (.invokevirtual 42, 3) := by decide +kernel
theorem dX3_readSign_15 : decode cX3_readSign 15 = .ok (.ifCond .eq 5, 3) := by decide +kernel
theorem dX3_readSign_18 : decode cX3_readSign 18 = .ok (.iload_n 1, 1) := by decide +kernel
theorem dX3_readSign_19 : decode cX3_readSign 19 = .ok (.ireturn, 1) := by decide +kernel
theorem dX3_readSign_20 : decode cX3_readSign 20 = .ok (.iinc 1 1, 3) := by decide +kernel
theorem dX3_readSign_23 : decode cX3_readSign 23 = .ok (.goto (-21), 3) := by decide +kernel
theorem dX3_readSign_26 : decode cX3_readSign 26 = .ok (.iconst 0, 1) := by decide +kernel
theorem dX3_readSign_27 : decode cX3_readSign 27 = .ok (.ireturn, 1) := by decide +kernel
theorem dX3_readDuration_0 : decode cX3_readDuration 0 = .ok (.aload_n 0, 1) := by decide +kernel
theorem dX3_readDuration_1 : decode cX3_readDuration 1 = .ok (.ldc 142, 2) := by decide +kernel
theorem dX3_readDuration_3 : decode cX3_readDuration 3 = .ok (.invokevirtual 42, 3) := by decide +kernel
theorem dX3_readDuration_6 : decode cX3_readDuration 6 = .ok (.ifCond .eq 7, 3) := by decide +kernel
theorem dX3_readDuration_9 : decode cX3_readDuration 9 = .ok (.iconst 1, 1) := by decide +kernel
theorem dX3_readDuration_10 : decode cX3_readDuration 10 = .ok (.goto 4, 3) := by decide +kernel
theorem dX3_readDuration_13 : decode cX3_readDuration 13 = .ok (.iconst 0, 1) := by decide +kernel
theorem dX3_readDuration_14 : decode cX3_readDuration 14 = .ok (.istore_n 1, 1) := by decide +kernel
theorem dX3_readDuration_15 : decode cX3_readDuration 15 = .ok (.iconst 0, 1) := by decide +kernel
theorem dX3_readDuration_16 : decode cX3_readDuration 16 = .ok (.istore_n 2, 1) := by decide +kernel
theorem dX3_readDuration_17 : decode cX3_readDuration 17 = .ok (.iload_n 2, 1) := by decide +kernel
theorem dX3_readDuration_18 : decode cX3_readDuration 18 = .ok (.iconst 5, 1) := by decide +kernel
theorem dX3_readDuration_19 : decode cX3_readDuration 19 = .ok (.if_icmp .ge 26, 3) := by decide +kernel
theorem dX3_readDuration_22 : decode cX3_readDuration 22 = .ok (.aload_n 0, 1) := by decide +kernel
theorem dX3_readDuration_23 : decode cX3_readDuration 23 = .ok (.iload_n 2, 1) := by decide +kernel
theorem dX3_readDuration_24 : decode cX3_readDuration 24 = .ok (.invokestatic 144, 3) := by decide +kernel
theorem dX3_readDuration_27 : decode cX3_readDuration 27 = .ok (.invokevirtual 42, 3) := by decide +kernel
theorem dX3_readDuration_30 : decode cX3_readDuration 30 = .ok (.ifCond .eq 9, 3) := by decide +kernel
theorem dX3_readDuration_33 : decode cX3_readDuration 33 = .ok (.iconst 2, 1) := by decide +kernel
theorem dX3_readDuration_34 : decode cX3_readDuration 34 = .ok (.iload_n 2, 1) := by decide +kernel
theorem dX3_readDuration_35 : decode cX3_readDuration 35 = .ok (.imul, 1) := by decide +kernel
theorem dX3_readDuration_36 : decode cX3_readDuration 36 = .ok (.iload_n 1, 1) := by decide +kernel
theorem dX3_readDuration_37 : decode cX3_readDuration 37 = .ok (.iadd, 1) := by decide +kernel
theorem dX3_readDuration_38 : decode cX3_readDuration 38 = .ok (.ireturn, 1) := by decide +kernel
theorem dX3_readDuration_39 : decode cX3_readDuration 39 = .ok (.iinc 2 1, 3) := by decide +kernel
theorem dX3_readDuration_42 : decode cX3_readDuration 42 = .ok (.goto (-25), 3) := by decide +kernel
theorem dX3_readDuration_45 : decode cX3_readDuration 45 = .ok (.aload_n 0, 1) := by decide +kernel
theorem dX3_readDuration_46 : decode cX3_readDuration 46 = .ok (.invokevirtual 69, 3) := by decide +kernel
theorem dX3_readDuration_49 : decode cX3_readDuration 49 = .ok (.iconst 0, 1) := by decide +kernel
theorem dX3_readDuration_50 : decode cX3_readDuration 50 = .ok (.ireturn, 1) := by decide +kernel
theorem dX3_fail_0 : decode cX3_fail 0 = .ok (.aload_n 0, 1) := by decide +kernel
theorem dX3_fail_1 : decode cX3_fail 1 = .ok (.getfield 25, 3) := by decide +kernel
theorem dX3_fail_4 : decode cX3_fail 4 = .ok (.sipush (-1000), 3) := by decide +kernel
theorem dX3_fail_7 : decode cX3_fail 7 = .ok (.if_icmp .ne 11, 3) := by decide +kernel
theorem dX3_fail_10 : decode cX3_fail 10 = .ok (.aload_n 0, 1) := by decide +kernel
theorem dX3_fail_11 : decode cX3_fail 11 = .ok (.aload_n 0, 1) := by decide +kernel
theorem dX3_fail_12 : decode cX3_fail 12 = .ok (.getfield 66, 3) := by decide +kernel
theorem dX3_fail_15 : decode cX3_fail 15 = .ok (.putfield 25, 3) := by decide +kernel
theorem dX3_fail_18 : decode cX3_fail 18 = .ok (.return_, 1) := by decide +kernel
theorem dX3_takeWord_0 : decode cX3_takeWord 0 = .ok (.aload_n 0, 1) := by decide +kernel
theorem dX3_takeWord_1 : decode cX3_takeWord 1 = .ok (.getfield 25, 3) := by decide +kernel
theorem dX3_takeWord_4 : decode cX3_takeWord 4 = .ok (.sipush (-1000), 3) := by decide +kernel
theorem dX3_takeWord_7 : decode cX3_takeWord 7 = .ok (.if_icmp .ne 15, 3) := by decide +kernel
theorem dX3_takeWord_10 : decode cX3_takeWord 10 = .ok (.aload_n 0, 1) := by decide +kernel
theorem dX3_takeWord_11 : decode cX3_takeWord 11 = .ok (.aload_n 1, 1) := by decide +kernel
theorem dX3_takeWord_12 : decode cX3_takeWord 12 = .ok (.invokevirtual 114, 3) := by decide +kernel
theorem dX3_takeWord_15 : decode cX3_takeWord 15 = .ok (.ifCond .eq 7, 3) := by decide +kernel
theorem dX3_takeWord_18 : decode cX3_takeWord 18 = .ok (.iconst 1, 1) := by decide +kernel
theorem dX3_takeWord_19 : decode cX3_takeWord 19 = .ok (.goto 4, 3) := by decide +kernel
theorem dX3_takeWord_22 : decode cX3_takeWord 22 = .ok (.iconst 0, 1) := by decide +kernel
theorem dX3_takeWord_23 : decode cX3_takeWord 23 = .ok (.istore_n 2, 1) := by decide +kernel
theorem dX3_takeWord_24 : decode cX3_takeWord 24 = .ok (.iload_n 2, 1) := by decide +kernel
theorem dX3_takeWord_25 : decode cX3_takeWord 25 = .ok (.ifCond .eq 7, 3) := by decide +kernel
theorem dX3_takeWord_28 : decode cX3_takeWord 28 = .ok (.aload_n 0, 1) := by decide +kernel
theorem dX3_takeWord_29 : decode cX3_takeWord 29 = .ok (.invokevirtual 32, 3) := by decide +kernel
theorem dX3_takeWord_32 : decode cX3_takeWord 32 = .ok (.iload_n 2, 1) := by decide +kernel
theorem dX3_takeWord_33 : decode cX3_takeWord 33 = .ok (.ireturn, 1) := by decide +kernel
theorem dX3_needWord_0 : decode cX3_needWord 0 = .ok (.aload_n 0, 1) := by decide +kernel
theorem dX3_needWord_1 : decode cX3_needWord 1 = .ok (.aload_n 1, 1) := by decide +kernel
theorem dX3_needWord_2 : decode cX3_needWord 2 = .ok (.invokevirtual 42, 3) := by decide +kernel
theorem dX3_needWord_5 : decode cX3_needWord 5 = .ok (.ifCond .ne 7, 3) := by decide +kernel
theorem dX3_needWord_8 : decode cX3_needWord 8 = .ok (.aload_n 0, 1) := by decide +kernel
theorem dX3_needWord_9 : decode cX3_needWord 9 = .ok (.invokevirtual 69, 3) := by decide +kernel
theorem dX3_needWord_12 : decode cX3_needWord 12 = .ok (.return_, 1) := by decide +kernel
theorem dX3_takeNumber_0 : decode cX3_takeNumber 0 = .ok (.aload_n 0, 1) := by decide +kernel
theorem dX3_takeNumber_1 : decode cX3_takeNumber 1 = .ok (.invokevirtual 95, 3) := by decide +kernel
theorem dX3_takeNumber_4 : decode cX3_takeNumber 4 = .ok (.istore_n 3, 1) := by decide +kernel
theorem dX3_takeNumber_5 : decode cX3_takeNumber 5 = .ok (.aload_n 0, 1) := by decide +kernel
theorem dX3_takeNumber_6 : decode cX3_takeNumber 6 = .ok (.getfield 25, 3) := by decide +kernel
theorem dX3_takeNumber_9 : decode cX3_takeNumber 9 = .ok (.sipush (-1000), 3) := by decide +kernel
theorem dX3_takeNumber_12 : decode cX3_takeNumber 12 = .ok (.if_icmp .ne 13, 3) := by decide +kernel
theorem dX3_takeNumber_15 : decode cX3_takeNumber 15 = .ok (.iload_n 3, 1) := by decide +kernel
theorem dX3_takeNumber_16 : decode cX3_takeNumber 16 = .ok (.iload_n 1, 1) := by decide +kernel
theorem dX3_takeNumber_17 : decode cX3_takeNumber 17 = .ok (.if_icmp .lt 8, 3) := by decide +kernel
theorem dX3_takeNumber_20 : decode cX3_takeNumber 20 = .ok (.iload_n 3, 1) := by decide +kernel
theorem dX3_takeNumber_21 : decode cX3_takeNumber 21 = .ok (.iload_n 2, 1) := by decide +kernel
theorem dX3_takeNumber_22 : decode cX3_takeNumber 22 = .ok (.if_icmp .le 9, 3) := by decide +kernel
theorem dX3_takeNumber_25 : decode cX3_takeNumber 25 = .ok (.aload_n 0, 1) := by decide +kernel
theorem dX3_takeNumber_26 : decode cX3_takeNumber 26 = .ok (.invokevirtual 69, 3) := by decide +kernel
theorem dX3_takeNumber_29 : decode cX3_takeNumber 29 = .ok (.iconst 0, 1) := by decide +kernel
theorem dX3_takeNumber_30 : decode cX3_takeNumber 30 = .ok (.ireturn, 1) := by decide +kernel
theorem dX3_takeNumber_31 : decode cX3_takeNumber 31 = .ok (.aload_n 0, 1) := by decide +kernel
theorem dX3_takeNumber_32 : decode cX3_takeNumber 32 = .ok (.invokevirtual 32, 3) := by decide +kernel
theorem dX3_takeNumber_35 : decode cX3_takeNumber 35 = .ok (.iload_n 3, 1) := by decide +kernel
theorem dX3_takeNumber_36 : decode cX3_takeNumber 36 = .ok (.ireturn, 1) := by decide +kernel
theorem dX3_advance_0 : decode cX3_advance 0 = .ok (.aload_n 0, 1) := by decide +kernel
theorem dX3_advance_1 : decode cX3_advance 1 = .ok (.aload_n 0, 1) := by decide +kernel
theorem dX3_advance_2 : decode cX3_advance 2 = .ok (.getfield 29, 3) := by decide +kernel
theorem dX3_advance_5 : decode cX3_advance 5 = .ok (.putfield 66, 3) := by decide +kernel
theorem dX3_advance_8 : decode cX3_advance 8 = .ok (.aload_n 0, 1) := by decide +kernel
theorem dX3_advance_9 : decode cX3_advance 9 = .ok (.getfield 66, 3) := by decide +kernel
theorem dX3_advance_12 : decode cX3_advance 12 = .ok (.aload_n 0, 1) := by decide +kernel
theorem dX3_advance_13 : decode cX3_advance 13 = .ok (.getfield 18, 3) := by decide +kernel
theorem dX3_advance_16 : decode cX3_advance 16 = .ok (.invokevirtual 147, 3) := by decide +kernel
theorem dX3_advance_19 : decode cX3_advance 19 = .ok (.if_icmp .ge 32, 3) := by decide +kernel
theorem dX3_advance_22 : decode cX3_advance 22 = .ok (.aload_n 0, 1) := by decide +kernel
theorem dX3_advance_23 : decode cX3_advance 23 = .ok (.getfield 18, 3) := by decide +kernel
theorem dX3_advance_26 : decode cX3_advance 26 = .ok (.aload_n 0, 1) := by decide +kernel
theorem dX3_advance_27 : decode cX3_advance 27 = .ok (.getfield 66, 3) := by decide +kernel
theorem dX3_advance_30 : decode cX3_advance 30 = .ok (.invokevirtual 152, 3) := by decide +kernel
theorem dX3_advance_33 : decode cX3_advance 33 = .ok (.bipush 32, 2) := by decide +kernel
theorem dX3_advance_35 : decode cX3_advance 35 = .ok (.if_icmp .ne 16, 3) := by decide +kernel
theorem dX3_advance_38 : decode cX3_advance 38 = .ok (.aload_n 0, 1) := by decide +kernel
theorem dX3_advance_39 : decode cX3_advance 39 = .ok (.dup, 1) := by decide +kernel
theorem dX3_advance_40 : decode cX3_advance 40 = .ok (.getfield 66, 3) := by decide +kernel
theorem dX3_advance_43 : decode cX3_advance 43 = .ok (.iconst 1, 1) := by decide +kernel
theorem dX3_advance_44 : decode cX3_advance 44 = .ok (.iadd, 1) := by decide +kernel
theorem dX3_advance_45 : decode cX3_advance 45 = .ok (.putfield 66, 3) := by decide +kernel
theorem dX3_advance_48 : decode cX3_advance 48 = .ok (.goto (-40), 3) := by decide +kernel
theorem dX3_advance_51 : decode cX3_advance 51 = .ok (.aload_n 0, 1) := by decide +kernel
theorem dX3_advance_52 : decode cX3_advance 52 = .ok (.aload_n 0, 1) := by decide +kernel
theorem dX3_advance_53 : decode cX3_advance 53 = .ok (.getfield 66, 3) := by decide +kernel
theorem dX3_advance_56 : decode cX3_advance 56 = .ok (.putfield 29, 3) := by decide +kernel
theorem dX3_advance_59 : decode cX3_advance 59 = .ok (.aload_n 0, 1) := by decide +kernel
theorem dX3_advance_60 : decode cX3_advance 60 = .ok (.getfield 29, 3) := by decide +kernel
theorem dX3_advance_63 : decode cX3_advance 63 = .ok (.aload_n 0, 1) := by decide +kernel
theorem dX3_advance_64 : decode cX3_advance 64 = .ok (.getfield 18, 3) := by decide +kernel
theorem dX3_advance_67 : decode cX3_advance 67 = .ok (.invokevirtual 147, 3) := by decide +kernel
theorem dX3_advance_70 : decode cX3_advance 70 = .ok (.if_icmp .ge 32, 3) := by decide +kernel
theorem dX3_advance_73 : decode cX3_advance 73 = .ok (.aload_n 0, 1) := by decide +kernel
theorem dX3_advance_74 : decode cX3_advance 74 = .ok (.getfield 18, 3) := by decide +kernel
theorem dX3_advance_77 : decode cX3_advance 77 = .ok (.aload_n 0, 1) := by decide +kernel
theorem dX3_advance_78 : decode cX3_advance 78 = .ok (.getfield 29, 3) := by decide +kernel
theorem dX3_advance_81 : decode cX3_advance 81 = .ok (.invokevirtual 152, 3) := by decide +kernel
theorem dX3_advance_84 : decode cX3_advance 84 = .ok (.bipush 32, 2) := by decide +kernel
theorem dX3_advance_86 : decode cX3_advance 86 = .ok (.if_icmp .eq 16, 3) := by decide +kernel
theorem dX3_advance_89 : decode cX3_advance 89 = .ok (.aload_n 0, 1) := by decide +kernel
theorem dX3_advance_90 : decode cX3_advance 90 = .ok (.dup, 1) := by decide +kernel
theorem dX3_advance_91 : decode cX3_advance 91 = .ok (.getfield 29, 3) := by decide +kernel
theorem dX3_advance_94 : decode cX3_advance 94 = .ok (.iconst 1, 1) := by decide +kernel
theorem dX3_advance_95 : decode cX3_advance 95 = .ok (.iadd, 1) := by decide +kernel
theorem dX3_advance_96 : decode cX3_advance 96 = .ok (.putfield 29, 3) := by decide +kernel
theorem dX3_advance_99 : decode cX3_advance 99 = .ok (.goto (-40), 3) := by decide +kernel
theorem dX3_advance_102 : decode cX3_advance 102 = .ok (.return_, 1) := by decide +kernel
theorem dX3_isWord_0 : decode cX3_isWord 0 = .ok (.aload_n 0, 1) := by decide +kernel
theorem dX3_isWord_1 : decode cX3_isWord 1 = .ok (.getfield 29, 3) := by decide +kernel
theorem dX3_isWord_4 : decode cX3_isWord 4 = .ok (.aload_n 0, 1) := by decide +kernel
theorem dX3_isWord_5 : decode cX3_isWord 5 = .ok (.getfield 66, 3) := by decide +kernel
theorem dX3_isWord_8 : decode cX3_isWord 8 = .ok (.isub, 1) := by decide +kernel
theorem dX3_isWord_9 : decode cX3_isWord 9 = .ok (.aload_n 1, 1) := by decide +kernel
theorem dX3_isWord_10 : decode cX3_isWord 10 = .ok (.invokevirtual 155, 3) := by decide +kernel
theorem dX3_isWord_13 : decode cX3_isWord 13 = .ok (.if_icmp .eq 5, 3) := by decide +kernel
theorem dX3_isWord_16 : decode cX3_isWord 16 = .ok (.iconst 0, 1) := by decide +kernel
theorem dX3_isWord_17 : decode cX3_isWord 17 = .ok (.ireturn, 1) := by decide +kernel
theorem dX3_isWord_18 : decode cX3_isWord 18 = .ok (.iconst 0, 1) := by decide +kernel
theorem dX3_isWord_19 : decode cX3_isWord 19 = .ok (.istore_n 2, 1) := by decide +kernel
theorem dX3_isWord_20 : decode cX3_isWord 20 = .ok (.iload_n 2, 1) := by decide +kernel
theorem dX3_isWord_21 : decode cX3_isWord 21 = .ok (.aload_n 1, 1) := by decide +kernel
theorem dX3_isWord_22 : decode cX3_isWord 22 = .ok (.invokevirtual 155, 3) := by decide +kernel
theorem dX3_isWord_25 : decode cX3_isWord 25 = .ok (.if_icmp .ge 32, 3) := by decide +kernel
theorem dX3_isWord_28 : decode cX3_isWord 28 = .ok (.aload_n 0, 1) := by decide +kernel
theorem dX3_isWord_29 : decode cX3_isWord 29 = .ok (.getfield 18, 3) := by decide +kernel
theorem dX3_isWord_32 : decode cX3_isWord 32 = .ok (.aload_n 0, 1) := by decide +kernel
theorem dX3_isWord_33 : decode cX3_isWord 33 = .ok (.getfield 66, 3) := by decide +kernel
theorem dX3_isWord_36 : decode cX3_isWord 36 = .ok (.iload_n 2, 1) := by decide +kernel
theorem dX3_isWord_37 : decode cX3_isWord 37 = .ok (.iadd, 1) := by decide +kernel
theorem dX3_isWord_38 : decode cX3_isWord 38 = .ok (.invokevirtual 152, 3) := by decide +kernel
theorem dX3_isWord_41 : decode cX3_isWord 41 = .ok (.aload_n 1, 1) := by decide +kernel
theorem dX3_isWord_42 : decode cX3_isWord 42 = .ok (.iload_n 2, 1) := by decide +kernel
theorem dX3_isWord_43 : decode cX3_isWord 43 = .ok (.invokevirtual 158, 3) := by decide +kernel
theorem dX3_isWord_46 : decode cX3_isWord 46 = .ok (.if_icmp .eq 5, 3) := by decide +kernel
theorem dX3_isWord_49 : decode cX3_isWord 49 = .ok (.iconst 0, 1) := by decide +kernel
theorem dX3_isWord_50 : decode cX3_isWord 50 = .ok (.ireturn, 1) := by decide +kernel
theorem dX3_isWord_51 : decode cX3_isWord 51 = .ok (.iinc 2 1, 3) := by decide +kernel
theorem dX3_isWord_54 : decode cX3_isWord 54 = .ok (.goto (-34), 3) := by decide +kernel
theorem dX3_isWord_57 : decode cX3_isWord 57 = .ok (.iconst 1, 1) := by decide +kernel
theorem dX3_isWord_58 : decode cX3_isWord 58 = .ok (.ireturn, 1) := by decide +kernel
theorem dX3_step_0 : decode cX3_step 0 = .ok (.aload_n 0, 1) := by decide +kernel
theorem dX3_step_1 : decode cX3_step 1 = .ok (.getfield 29, 3) := by decide +kernel
theorem dX3_step_4 : decode cX3_step 4 = .ok (.aload_n 0, 1) := by decide +kernel
theorem dX3_step_5 : decode cX3_step 5 = .ok (.getfield 66, 3) := by decide +kernel
theorem dX3_step_8 : decode cX3_step 8 = .ok (.isub, 1) := by decide +kernel
theorem dX3_step_9 : decode cX3_step 9 = .ok (.iconst 1, 1) := by decide +kernel
theorem dX3_step_10 : decode cX3_step 10 = .ok (.if_icmp .ne 23, 3) := by decide +kernel
theorem dX3_step_13 : decode cX3_step 13 = .ok (.ldc 162, 2) := by decide +kernel
theorem dX3_step_15 : decode cX3_step 15 = .ok (.aload_n 0, 1) := by decide +kernel
theorem dX3_step_16 : decode cX3_step 16 = .ok (.getfield 18, 3) := by decide +kernel
theorem dX3_step_19 : decode cX3_step 19 = .ok (.aload_n 0, 1) := by decide +kernel
theorem dX3_step_20 : decode cX3_step 20 = .ok (.getfield 66, 3) := by decide +kernel
theorem dX3_step_23 : decode cX3_step 23 = .ok (.invokevirtual 152, 3) := by decide +kernel
theorem dX3_step_26 : decode cX3_step 26 = .ok (.i2c, 1) := by decide +kernel
theorem dX3_step_27 : decode cX3_step 27 = .ok (.invokevirtual 164, 3) := by decide +kernel
theorem dX3_step_30 : decode cX3_step 30 = .ok (.goto 4, 3) := by decide +kernel
theorem dX3_step_33 : decode cX3_step 33 = .ok (.iconst (-1), 1) := by decide +kernel
theorem dX3_step_34 : decode cX3_step 34 = .ok (.ireturn, 1) := by decide +kernel
theorem dX3_number_0 : decode cX3_number 0 = .ok (.aload_n 0, 1) := by decide +kernel
theorem dX3_number_1 : decode cX3_number 1 = .ok (.getfield 29, 3) := by decide +kernel
theorem dX3_number_4 : decode cX3_number 4 = .ok (.aload_n 0, 1) := by decide +kernel
theorem dX3_number_5 : decode cX3_number 5 = .ok (.getfield 66, 3) := by decide +kernel
theorem dX3_number_8 : decode cX3_number 8 = .ok (.if_icmp .eq 16, 3) := by decide +kernel
theorem dX3_number_11 : decode cX3_number 11 = .ok (.aload_n 0, 1) := by decide +kernel
theorem dX3_number_12 : decode cX3_number 12 = .ok (.getfield 29, 3) := by decide +kernel
theorem dX3_number_15 : decode cX3_number 15 = .ok (.aload_n 0, 1) := by decide +kernel
theorem dX3_number_16 : decode cX3_number 16 = .ok (.getfield 66, 3) := by decide +kernel
theorem dX3_number_19 : decode cX3_number 19 = .ok (.isub, 1) := by decide +kernel
theorem dX3_number_20 : decode cX3_number 20 = .ok (.iconst 3, 1) := by decide +kernel
theorem dX3_number_21 : decode cX3_number 21 = .ok (.if_icmp .le 5, 3) := by decide +kernel
theorem dX3_number_24 : decode cX3_number 24 = .ok (.iconst (-1), 1) := by decide +kernel
theorem dX3_number_25 : decode cX3_number 25 = .ok (.ireturn, 1) := by decide +kernel
theorem dX3_number_26 : decode cX3_number 26 = .ok (.iconst 0, 1) := by decide +kernel
theorem dX3_number_27 : decode cX3_number 27 = .ok (.istore_n 1, 1) := by decide +kernel
theorem dX3_number_28 : decode cX3_number 28 = .ok (.aload_n 0, 1) := by decide +kernel
theorem dX3_number_29 : decode cX3_number 29 = .ok (.getfield 66, 3) := by decide +kernel
theorem dX3_number_32 : decode cX3_number 32 = .ok (.istore_n 2, 1) := by decide +kernel
theorem dX3_number_33 : decode cX3_number 33 = .ok (.iload_n 2, 1) := by decide +kernel
theorem dX3_number_34 : decode cX3_number 34 = .ok (.aload_n 0, 1) := by decide +kernel
theorem dX3_number_35 : decode cX3_number 35 = .ok (.getfield 29, 3) := by decide +kernel
theorem dX3_number_38 : decode cX3_number 38 = .ok (.if_icmp .ge 40, 3) := by decide +kernel
theorem dX3_number_41 : decode cX3_number 41 = .ok (.aload_n 0, 1) := by decide +kernel
theorem dX3_number_42 : decode cX3_number 42 = .ok (.getfield 18, 3) := by decide +kernel
theorem dX3_number_45 : decode cX3_number 45 = .ok (.iload_n 2, 1) := by decide +kernel
theorem dX3_number_46 : decode cX3_number 46 = .ok (.invokevirtual 152, 3) := by decide +kernel
theorem dX3_number_49 : decode cX3_number 49 = .ok (.bipush 48, 2) := by decide +kernel
theorem dX3_number_51 : decode cX3_number 51 = .ok (.isub, 1) := by decide +kernel
theorem dX3_number_52 : decode cX3_number 52 = .ok (.istore_n 3, 1) := by decide +kernel
theorem dX3_number_53 : decode cX3_number 53 = .ok (.iload_n 3, 1) := by decide +kernel
theorem dX3_number_54 : decode cX3_number 54 = .ok (.ifCond .lt 9, 3) := by decide +kernel
theorem dX3_number_57 : decode cX3_number 57 = .ok (.iload_n 3, 1) := by decide +kernel
theorem dX3_number_58 : decode cX3_number 58 = .ok (.bipush 9, 2) := by decide +kernel
theorem dX3_number_60 : decode cX3_number 60 = .ok (.if_icmp .le 5, 3) := by decide +kernel
theorem dX3_number_63 : decode cX3_number 63 = .ok (.iconst (-1), 1) := by decide +kernel
theorem dX3_number_64 : decode cX3_number 64 = .ok (.ireturn, 1) := by decide +kernel
theorem dX3_number_65 : decode cX3_number 65 = .ok (.bipush 10, 2) := by decide +kernel
theorem dX3_number_67 : decode cX3_number 67 = .ok (.iload_n 1, 1) := by decide +kernel
theorem dX3_number_68 : decode cX3_number 68 = .ok (.imul, 1) := by decide +kernel
theorem dX3_number_69 : decode cX3_number 69 = .ok (.iload_n 3, 1) := by decide +kernel
theorem dX3_number_70 : decode cX3_number 70 = .ok (.iadd, 1) := by decide +kernel
theorem dX3_number_71 : decode cX3_number 71 = .ok (.istore_n 1, 1) := by decide +kernel
theorem dX3_number_72 : decode cX3_number 72 = .ok (.iinc 2 1, 3) := by decide +kernel
theorem dX3_number_75 : decode cX3_number 75 = .ok (.goto (-42), 3) := by decide +kernel
theorem dX3_number_78 : decode cX3_number 78 = .ok (.iload_n 1, 1) := by decide +kernel
theorem dX3_number_79 : decode cX3_number 79 = .ok (.ireturn, 1) := by decide +kernel
theorem dX4_init_0 : decode cX4_init 0 = .ok (.aload_n 0, 1) := by decide +kernel
theorem dX4_init_1 : decode cX4_init 1 = .ok (.invokespecial 3, 3) := by decide +kernel
theorem dX4_init_4 : decode cX4_init 4 = .ok (.aload_n 0, 1) := by decide +kernel
theorem dX4_init_5 : decode cX4_init 5 = .ok (.sipush 912, 3) := by decide +kernel
theorem dX4_init_8 : decode cX4_init 8 = .ok (.newarray .int, 2) := by decide +kernel
theorem dX4_init_10 : decode cX4_init 10 = .ok (.putfield 9, 3) := by decide +kernel
theorem dX4_init_13 : decode cX4_init 13 = .ok (.return_, 1) := by decide +kernel
theorem dX4_canHold_0 : decode cX4_canHold 0 = .ok (.iload_n 0, 1) := by decide +kernel
theorem dX4_canHold_1 : decode cX4_canHold 1 = .ok (.tableswitch 175 0 6 #[43, 61, 78, 106, 125, 140, 160], 43) := by decide +kernel
theorem dX4_canHold_44 : decode cX4_canHold 44 = .ok (.iload_n 1, 1) := by decide +kernel
theorem dX4_canHold_45 : decode cX4_canHold 45 = .ok (.bipush (-7), 2) := by decide +kernel
theorem dX4_canHold_47 : decode cX4_canHold 47 = .ok (.if_icmp .lt 13, 3) := by decide +kernel
theorem dX4_canHold_50 : decode cX4_canHold 50 = .ok (.iload_n 1, 1) := by decide +kernel
theorem dX4_canHold_51 : decode cX4_canHold 51 = .ok (.bipush 7, 2) := by decide +kernel
theorem dX4_canHold_53 : decode cX4_canHold 53 = .ok (.if_icmp .gt 7, 3) := by decide +kernel
theorem dX4_canHold_56 : decode cX4_canHold 56 = .ok (.iconst 1, 1) := by decide +kernel
theorem dX4_canHold_57 : decode cX4_canHold 57 = .ok (.goto 4, 3) := by decide +kernel
theorem dX4_canHold_60 : decode cX4_canHold 60 = .ok (.iconst 0, 1) := by decide +kernel
theorem dX4_canHold_61 : decode cX4_canHold 61 = .ok (.ireturn, 1) := by decide +kernel
theorem dX4_canHold_62 : decode cX4_canHold 62 = .ok (.iload_n 1, 1) := by decide +kernel
theorem dX4_canHold_63 : decode cX4_canHold 63 = .ok (.iconst 1, 1) := by decide +kernel
theorem dX4_canHold_64 : decode cX4_canHold 64 = .ok (.if_icmp .lt 13, 3) := by decide +kernel
theorem dX4_canHold_67 : decode cX4_canHold 67 = .ok (.iload_n 1, 1) := by decide +kernel
theorem dX4_canHold_68 : decode cX4_canHold 68 = .ok (.bipush 12, 2) := by decide +kernel
theorem dX4_canHold_70 : decode cX4_canHold 70 = .ok (.if_icmp .gt 7, 3) := by decide +kernel
theorem dX4_canHold_73 : decode cX4_canHold 73 = .ok (.iconst 1, 1) := by decide +kernel
theorem dX4_canHold_74 : decode cX4_canHold 74 = .ok (.goto 4, 3) := by decide +kernel
theorem dX4_canHold_77 : decode cX4_canHold 77 = .ok (.iconst 0, 1) := by decide +kernel
theorem dX4_canHold_78 : decode cX4_canHold 78 = .ok (.ireturn, 1) := by decide +kernel
theorem dX4_canHold_79 : decode cX4_canHold 79 = .ok (.iload_n 1, 1) := by decide +kernel
theorem dX4_canHold_80 : decode cX4_canHold 80 = .ok (.iconst 2, 1) := by decide +kernel
theorem dX4_canHold_81 : decode cX4_canHold 81 = .ok (.if_icmp .eq 20, 3) := by decide +kernel
theorem dX4_canHold_84 : decode cX4_canHold 84 = .ok (.iload_n 1, 1) := by decide +kernel
theorem dX4_canHold_85 : decode cX4_canHold 85 = .ok (.iconst 4, 1) := by decide +kernel
theorem dX4_canHold_86 : decode cX4_canHold 86 = .ok (.if_icmp .eq 15, 3) := by decide +kernel
theorem dX4_canHold_89 : decode cX4_canHold 89 = .ok (.iload_n 1, 1) := by decide +kernel
theorem dX4_canHold_90 : decode cX4_canHold 90 = .ok (.bipush 8, 2) := by decide +kernel
theorem dX4_canHold_92 : decode cX4_canHold 92 = .ok (.if_icmp .eq 9, 3) := by decide +kernel
theorem dX4_canHold_95 : decode cX4_canHold 95 = .ok (.iload_n 1, 1) := by decide +kernel
theorem dX4_canHold_96 : decode cX4_canHold 96 = .ok (.bipush 16, 2) := by decide +kernel
theorem dX4_canHold_98 : decode cX4_canHold 98 = .ok (.if_icmp .ne 7, 3) := by decide +kernel
theorem dX4_canHold_101 : decode cX4_canHold 101 = .ok (.iconst 1, 1) := by decide +kernel
theorem dX4_canHold_102 : decode cX4_canHold 102 = .ok (.goto 4, 3) := by decide +kernel
theorem dX4_canHold_105 : decode cX4_canHold 105 = .ok (.iconst 0, 1) := by decide +kernel
theorem dX4_canHold_106 : decode cX4_canHold 106 = .ok (.ireturn, 1) := by decide +kernel
theorem dX4_canHold_107 : decode cX4_canHold 107 = .ok (.iload_n 1, 1) := by decide +kernel
theorem dX4_canHold_108 : decode cX4_canHold 108 = .ok (.bipush 20, 2) := by decide +kernel
theorem dX4_canHold_110 : decode cX4_canHold 110 = .ok (.if_icmp .lt 14, 3) := by decide +kernel
theorem dX4_canHold_113 : decode cX4_canHold 113 = .ok (.iload_n 1, 1) := by decide +kernel
theorem dX4_canHold_114 : decode cX4_canHold 114 = .ok (.sipush 300, 3) := by decide +kernel
theorem dX4_canHold_117 : decode cX4_canHold 117 = .ok (.if_icmp .gt 7, 3) := by decide +kernel
theorem dX4_canHold_120 : decode cX4_canHold 120 = .ok (.iconst 1, 1) := by decide +kernel
theorem dX4_canHold_121 : decode cX4_canHold 121 = .ok (.goto 4, 3) := by decide +kernel
theorem dX4_canHold_124 : decode cX4_canHold 124 = .ok (.iconst 0, 1) := by decide +kernel
theorem dX4_canHold_125 : decode cX4_canHold 125 = .ok (.ireturn, 1) := by decide +kernel
theorem dX4_canHold_126 : decode cX4_canHold 126 = .ok (.iload_n 1, 1) := by decide +kernel
theorem dX4_canHold_127 : decode cX4_canHold 127 = .ok (.ifCond .eq 8, 3) := by decide +kernel
theorem dX4_canHold_130 : decode cX4_canHold 130 = .ok (.iload_n 1, 1) := by decide +kernel
theorem dX4_canHold_131 : decode cX4_canHold 131 = .ok (.iconst 1, 1) := by decide +kernel
theorem dX4_canHold_132 : decode cX4_canHold 132 = .ok (.if_icmp .ne 7, 3) := by decide +kernel
theorem dX4_canHold_135 : decode cX4_canHold 135 = .ok (.iconst 1, 1) := by decide +kernel
theorem dX4_canHold_136 : decode cX4_canHold 136 = .ok (.goto 4, 3) := by decide +kernel
theorem dX4_canHold_139 : decode cX4_canHold 139 = .ok (.iconst 0, 1) := by decide +kernel
theorem dX4_canHold_140 : decode cX4_canHold 140 = .ok (.ireturn, 1) := by decide +kernel
theorem dX4_canHold_141 : decode cX4_canHold 141 = .ok (.iload_n 1, 1) := by decide +kernel
theorem dX4_canHold_142 : decode cX4_canHold 142 = .ok (.ifCond .eq 13, 3) := by decide +kernel
theorem dX4_canHold_145 : decode cX4_canHold 145 = .ok (.iload_n 1, 1) := by decide +kernel
theorem dX4_canHold_146 : decode cX4_canHold 146 = .ok (.iconst 2, 1) := by decide +kernel
theorem dX4_canHold_147 : decode cX4_canHold 147 = .ok (.if_icmp .lt 12, 3) := by decide +kernel
theorem dX4_canHold_150 : decode cX4_canHold 150 = .ok (.iload_n 1, 1) := by decide +kernel
theorem dX4_canHold_151 : decode cX4_canHold 151 = .ok (.iconst 4, 1) := by decide +kernel
theorem dX4_canHold_152 : decode cX4_canHold 152 = .ok (.if_icmp .gt 7, 3) := by decide +kernel
theorem dX4_canHold_155 : decode cX4_canHold 155 = .ok (.iconst 1, 1) := by decide +kernel
theorem dX4_canHold_156 : decode cX4_canHold 156 = .ok (.goto 4, 3) := by decide +kernel
theorem dX4_canHold_159 : decode cX4_canHold 159 = .ok (.iconst 0, 1) := by decide +kernel
theorem dX4_canHold_160 : decode cX4_canHold 160 = .ok (.ireturn, 1) := by decide +kernel
theorem dX4_canHold_161 : decode cX4_canHold 161 = .ok (.iload_n 1, 1) := by decide +kernel
theorem dX4_canHold_162 : decode cX4_canHold 162 = .ok (.ifCond .lt 12, 3) := by decide +kernel
theorem dX4_canHold_165 : decode cX4_canHold 165 = .ok (.iload_n 1, 1) := by decide +kernel
theorem dX4_canHold_166 : decode cX4_canHold 166 = .ok (.iconst 4, 1) := by decide +kernel
theorem dX4_canHold_167 : decode cX4_canHold 167 = .ok (.if_icmp .gt 7, 3) := by decide +kernel
theorem dX4_canHold_170 : decode cX4_canHold 170 = .ok (.iconst 1, 1) := by decide +kernel
theorem dX4_canHold_171 : decode cX4_canHold 171 = .ok (.goto 4, 3) := by decide +kernel
theorem dX4_canHold_174 : decode cX4_canHold 174 = .ok (.iconst 0, 1) := by decide +kernel
theorem dX4_canHold_175 : decode cX4_canHold 175 = .ok (.ireturn, 1) := by decide +kernel
theorem dX4_canHold_176 : decode cX4_canHold 176 = .ok (.iconst 0, 1) := by decide +kernel
theorem dX4_canHold_177 : decode cX4_canHold 177 = .ok (.ireturn, 1) := by decide +kernel
theorem dX4_size_0 : decode cX4_size 0 = .ok (.aload_n 0, 1) := by decide +kernel
theorem dX4_size_1 : decode cX4_size 1 = .ok (.getfield 13, 3) := by decide +kernel
theorem dX4_size_4 : decode cX4_size 4 = .ok (.ireturn, 1) := by decide +kernel
theorem dX4_isFull_0 : decode cX4_isFull 0 = .ok (.aload_n 0, 1) := by decide +kernel
theorem dX4_isFull_1 : decode cX4_isFull 1 = .ok (.getfield 13, 3) := by decide +kernel
theorem dX4_isFull_4 : decode cX4_isFull 4 = .ok (.bipush 16, 2) := by decide +kernel
theorem dX4_isFull_6 : decode cX4_isFull 6 = .ok (.if_icmp .lt 7, 3) := by decide +kernel
theorem dX4_isFull_9 : decode cX4_isFull 9 = .ok (.iconst 1, 1) := by decide +kernel
theorem dX4_isFull_10 : decode cX4_isFull 10 = .ok (.goto 4, 3) := by decide +kernel
theorem dX4_isFull_13 : decode cX4_isFull 13 = .ok (.iconst 0, 1) := by decide +kernel
theorem dX4_isFull_14 : decode cX4_isFull 14 = .ok (.ireturn, 1) := by decide +kernel
theorem dX4_hasMeasure_0 : decode cX4_hasMeasure 0 = .ok (.iload_n 1, 1) := by decide +kernel
theorem dX4_hasMeasure_1 : decode cX4_hasMeasure 1 = .ok (.ifCond .lt 15, 3) := by decide +kernel
theorem dX4_hasMeasure_4 : decode cX4_hasMeasure 4 = .ok (.iload_n 1, 1) := by decide +kernel
theorem dX4_hasMeasure_5 : decode cX4_hasMeasure 5 = .ok (.aload_n 0, 1) := by decide +kernel
theorem dX4_hasMeasure_6 : decode cX4_hasMeasure 6 = .ok (.getfield 13, 3) := by decide +kernel
theorem dX4_hasMeasure_9 : decode cX4_hasMeasure 9 = .ok (.if_icmp .ge 7, 3) := by decide +kernel
theorem dX4_hasMeasure_12 : decode cX4_hasMeasure 12 = .ok (.iconst 1, 1) := by decide +kernel
theorem dX4_hasMeasure_13 : decode cX4_hasMeasure 13 = .ok (.goto 4, 3) := by decide +kernel
theorem dX4_hasMeasure_16 : decode cX4_hasMeasure 16 = .ok (.iconst 0, 1) := by decide +kernel
theorem dX4_hasMeasure_17 : decode cX4_hasMeasure 17 = .ok (.ireturn, 1) := by decide +kernel
theorem dX4_hasVoice_0 : decode cX4_hasVoice 0 = .ok (.aload_n 0, 1) := by decide +kernel
theorem dX4_hasVoice_1 : decode cX4_hasVoice 1 = .ok (.iload_n 1, 1) := by decide +kernel
theorem dX4_hasVoice_2 : decode cX4_hasVoice 2 = .ok (.iload_n 2, 1) := by decide +kernel
theorem dX4_hasVoice_3 : decode cX4_hasVoice 3 = .ok (.invokevirtual 17, 3) := by decide +kernel
theorem dX4_hasVoice_6 : decode cX4_hasVoice 6 = .ok (.ifCond .lt 7, 3) := by decide +kernel
theorem dX4_hasVoice_9 : decode cX4_hasVoice 9 = .ok (.iconst 1, 1) := by decide +kernel
theorem dX4_hasVoice_10 : decode cX4_hasVoice 10 = .ok (.goto 4, 3) := by decide +kernel
theorem dX4_hasVoice_13 : decode cX4_hasVoice 13 = .ok (.iconst 0, 1) := by decide +kernel
theorem dX4_hasVoice_14 : decode cX4_hasVoice 14 = .ok (.ireturn, 1) := by decide +kernel
theorem dX4_hasEvent_0 : decode cX4_hasEvent 0 = .ok (.iload_n 3, 1) := by decide +kernel
theorem dX4_hasEvent_1 : decode cX4_hasEvent 1 = .ok (.ifCond .lt 17, 3) := by decide +kernel
theorem dX4_hasEvent_4 : decode cX4_hasEvent 4 = .ok (.iload_n 3, 1) := by decide +kernel
theorem dX4_hasEvent_5 : decode cX4_hasEvent 5 = .ok (.aload_n 0, 1) := by decide +kernel
theorem dX4_hasEvent_6 : decode cX4_hasEvent 6 = .ok (.iload_n 1, 1) := by decide +kernel
theorem dX4_hasEvent_7 : decode cX4_hasEvent 7 = .ok (.iload_n 2, 1) := by decide +kernel
theorem dX4_hasEvent_8 : decode cX4_hasEvent 8 = .ok (.invokevirtual 21, 3) := by decide +kernel
theorem dX4_hasEvent_11 : decode cX4_hasEvent 11 = .ok (.if_icmp .ge 7, 3) := by decide +kernel
theorem dX4_hasEvent_14 : decode cX4_hasEvent 14 = .ok (.iconst 1, 1) := by decide +kernel
theorem dX4_hasEvent_15 : decode cX4_hasEvent 15 = .ok (.goto 4, 3) := by decide +kernel
theorem dX4_hasEvent_18 : decode cX4_hasEvent 18 = .ok (.iconst 0, 1) := by decide +kernel
theorem dX4_hasEvent_19 : decode cX4_hasEvent 19 = .ok (.ireturn, 1) := by decide +kernel
theorem dX4_value_0 : decode cX4_value 0 = .ok (.aload_n 0, 1) := by decide +kernel
theorem dX4_value_1 : decode cX4_value 1 = .ok (.iload_n 1, 1) := by decide +kernel
theorem dX4_value_2 : decode cX4_value 2 = .ok (.invokevirtual 24, 3) := by decide +kernel
theorem dX4_value_5 : decode cX4_value 5 = .ok (.ifCond .eq 27, 3) := by decide +kernel
theorem dX4_value_8 : decode cX4_value 8 = .ok (.iload_n 2, 1) := by decide +kernel
theorem dX4_value_9 : decode cX4_value 9 = .ok (.ifCond .lt 23, 3) := by decide +kernel
theorem dX4_value_12 : decode cX4_value 12 = .ok (.iload_n 2, 1) := by decide +kernel
theorem dX4_value_13 : decode cX4_value 13 = .ok (.bipush 7, 2) := by decide +kernel
theorem dX4_value_15 : decode cX4_value 15 = .ok (.if_icmp .ge 17, 3) := by decide +kernel
theorem dX4_value_18 : decode cX4_value 18 = .ok (.aload_n 0, 1) := by decide +kernel
theorem dX4_value_19 : decode cX4_value 19 = .ok (.getfield 9, 3) := by decide +kernel
theorem dX4_value_22 : decode cX4_value 22 = .ok (.iload_n 1, 1) := by decide +kernel
theorem dX4_value_23 : decode cX4_value 23 = .ok (.bipush 57, 2) := by decide +kernel
theorem dX4_value_25 : decode cX4_value 25 = .ok (.imul, 1) := by decide +kernel
theorem dX4_value_26 : decode cX4_value 26 = .ok (.iload_n 2, 1) := by decide +kernel
theorem dX4_value_27 : decode cX4_value 27 = .ok (.iadd, 1) := by decide +kernel
theorem dX4_value_28 : decode cX4_value 28 = .ok (.iaload, 1) := by decide +kernel
theorem dX4_value_29 : decode cX4_value 29 = .ok (.goto 4, 3) := by decide +kernel
theorem dX4_value_32 : decode cX4_value 32 = .ok (.iconst 0, 1) := by decide +kernel
theorem dX4_value_33 : decode cX4_value 33 = .ok (.ireturn, 1) := by decide +kernel
theorem dX4_putValue_0 : decode cX4_putValue 0 = .ok (.aload_n 0, 1) := by decide +kernel
theorem dX4_putValue_1 : decode cX4_putValue 1 = .ok (.iload_n 1, 1) := by decide +kernel
theorem dX4_putValue_2 : decode cX4_putValue 2 = .ok (.invokevirtual 24, 3) := by decide +kernel
theorem dX4_putValue_5 : decode cX4_putValue 5 = .ok (.ifCond .eq 25, 3) := by decide +kernel
theorem dX4_putValue_8 : decode cX4_putValue 8 = .ok (.iload_n 2, 1) := by decide +kernel
theorem dX4_putValue_9 : decode cX4_putValue 9 = .ok (.ifCond .lt 21, 3) := by decide +kernel
theorem dX4_putValue_12 : decode cX4_putValue 12 = .ok (.iload_n 2, 1) := by decide +kernel
theorem dX4_putValue_13 : decode cX4_putValue 13 = .ok (.bipush 7, 2) := by decide +kernel
theorem dX4_putValue_15 : decode cX4_putValue 15 = .ok (.if_icmp .ge 15, 3) := by decide +kernel
theorem dX4_putValue_18 : decode cX4_putValue 18 = .ok (.aload_n 0, 1) := by decide +kernel
theorem dX4_putValue_19 : decode cX4_putValue 19 = .ok (.getfield 9, 3) := by decide +kernel
theorem dX4_putValue_22 : decode cX4_putValue 22 = .ok (.iload_n 1, 1) := by decide +kernel
theorem dX4_putValue_23 : decode cX4_putValue 23 = .ok (.bipush 57, 2) := by decide +kernel
theorem dX4_putValue_25 : decode cX4_putValue 25 = .ok (.imul, 1) := by decide +kernel
theorem dX4_putValue_26 : decode cX4_putValue 26 = .ok (.iload_n 2, 1) := by decide +kernel
theorem dX4_putValue_27 : decode cX4_putValue 27 = .ok (.iadd, 1) := by decide +kernel
theorem dX4_putValue_28 : decode cX4_putValue 28 = .ok (.iload_n 3, 1) := by decide +kernel
theorem dX4_putValue_29 : decode cX4_putValue 29 = .ok (.iastore, 1) := by decide +kernel
theorem dX4_putValue_30 : decode cX4_putValue 30 = .ok (.return_, 1) := by decide +kernel
theorem dX4_count_0 : decode cX4_count 0 = .ok (.aload_n 0, 1) := by decide +kernel
theorem dX4_count_1 : decode cX4_count 1 = .ok (.iload_n 1, 1) := by decide +kernel
theorem dX4_count_2 : decode cX4_count 2 = .ok (.iload_n 2, 1) := by decide +kernel
theorem dX4_count_3 : decode cX4_count 3 = .ok (.invokevirtual 17, 3) := by decide +kernel
theorem dX4_count_6 : decode cX4_count 6 = .ok (.istore_n 3, 1) := by decide +kernel
theorem dX4_count_7 : decode cX4_count 7 = .ok (.iload_n 3, 1) := by decide +kernel
theorem dX4_count_8 : decode cX4_count 8 = .ok (.ifCond .lt 12, 3) := by decide +kernel
theorem dX4_count_11 : decode cX4_count 11 = .ok (.aload_n 0, 1) := by decide +kernel
theorem dX4_count_12 : decode cX4_count 12 = .ok (.getfield 9, 3) := by decide +kernel
theorem dX4_count_15 : decode cX4_count 15 = .ok (.iload_n 3, 1) := by decide +kernel
theorem dX4_count_16 : decode cX4_count 16 = .ok (.iaload, 1) := by decide +kernel
theorem dX4_count_17 : decode cX4_count 17 = .ok (.goto 4, 3) := by decide +kernel
theorem dX4_count_20 : decode cX4_count 20 = .ok (.iconst 0, 1) := by decide +kernel
theorem dX4_count_21 : decode cX4_count 21 = .ok (.ireturn, 1) := by decide +kernel
theorem dX4_code_0 : decode cX4_code 0 = .ok (.aload_n 0, 1) := by decide +kernel
theorem dX4_code_1 : decode cX4_code 1 = .ok (.iload_n 1, 1) := by decide +kernel
theorem dX4_code_2 : decode cX4_code 2 = .ok (.iload_n 2, 1) := by decide +kernel
theorem dX4_code_3 : decode cX4_code 3 = .ok (.invokevirtual 17, 3) := by decide +kernel
theorem dX4_code_6 : decode cX4_code 6 = .ok (.istore 4, 2) := by decide +kernel
theorem dX4_code_8 : decode cX4_code 8 = .ok (.iload 4, 2) := by decide +kernel
theorem dX4_code_10 : decode cX4_code 10 = .ok (.ifCond .lt 32, 3) := by decide +kernel
theorem dX4_code_13 : decode cX4_code 13 = .ok (.iload_n 3, 1) := by decide +kernel
theorem dX4_code_14 : decode cX4_code 14 = .ok (.ifCond .lt 28, 3) := by decide +kernel
theorem dX4_code_17 : decode cX4_code 17 = .ok (.iload_n 3, 1) := by decide +kernel
theorem dX4_code_18 : decode cX4_code 18 = .ok (.aload_n 0, 1) := by decide +kernel
theorem dX4_code_19 : decode cX4_code 19 = .ok (.getfield 9, 3) := by decide +kernel
theorem dX4_code_22 : decode cX4_code 22 = .ok (.iload 4, 2) := by decide +kernel
theorem dX4_code_24 : decode cX4_code 24 = .ok (.iaload, 1) := by decide +kernel
theorem dX4_code_25 : decode cX4_code 25 = .ok (.if_icmp .ge 17, 3) := by decide +kernel
theorem dX4_code_28 : decode cX4_code 28 = .ok (.aload_n 0, 1) := by decide +kernel
theorem dX4_code_29 : decode cX4_code 29 = .ok (.getfield 9, 3) := by decide +kernel
theorem dX4_code_32 : decode cX4_code 32 = .ok (.iload 4, 2) := by decide +kernel
theorem dX4_code_34 : decode cX4_code 34 = .ok (.iconst 1, 1) := by decide +kernel
theorem dX4_code_35 : decode cX4_code 35 = .ok (.iadd, 1) := by decide +kernel
theorem dX4_code_36 : decode cX4_code 36 = .ok (.iload_n 3, 1) := by decide +kernel
theorem dX4_code_37 : decode cX4_code 37 = .ok (.iadd, 1) := by decide +kernel
theorem dX4_code_38 : decode cX4_code 38 = .ok (.iaload, 1) := by decide +kernel
theorem dX4_code_39 : decode cX4_code 39 = .ok (.goto 4, 3) := by decide +kernel
theorem dX4_code_42 : decode cX4_code 42 = .ok (.iconst 0, 1) := by decide +kernel
theorem dX4_code_43 : decode cX4_code 43 = .ok (.ireturn, 1) := by decide +kernel
theorem dX4_voiceCell_0 : decode cX4_voiceCell 0 = .ok (.iload_n 1, 1) := by decide +kernel
theorem dX4_voiceCell_1 : decode cX4_voiceCell 1 = .ok (.ifCond .lt 24, 3) := by decide +kernel
theorem dX4_voiceCell_4 : decode cX4_voiceCell 4 = .ok (.iload_n 1, 1) := by decide +kernel
theorem dX4_voiceCell_5 : decode cX4_voiceCell 5 = .ok (.aload_n 0, 1) := by decide +kernel
theorem dX4_voiceCell_6 : decode cX4_voiceCell 6 = .ok (.getfield 13, 3) := by decide +kernel
theorem dX4_voiceCell_9 : decode cX4_voiceCell 9 = .ok (.if_icmp .ge 16, 3) := by decide +kernel
theorem dX4_voiceCell_12 : decode cX4_voiceCell 12 = .ok (.iload_n 2, 1) := by decide +kernel
theorem dX4_voiceCell_13 : decode cX4_voiceCell 13 = .ok (.ifCond .lt 12, 3) := by decide +kernel
theorem dX4_voiceCell_16 : decode cX4_voiceCell 16 = .ok (.iload_n 2, 1) := by decide +kernel
theorem dX4_voiceCell_17 : decode cX4_voiceCell 17 = .ok (.iconst 2, 1) := by decide +kernel
theorem dX4_voiceCell_18 : decode cX4_voiceCell 18 = .ok (.if_icmp .ge 7, 3) := by decide +kernel
theorem dX4_voiceCell_21 : decode cX4_voiceCell 21 = .ok (.iconst 1, 1) := by decide +kernel
theorem dX4_voiceCell_22 : decode cX4_voiceCell 22 = .ok (.goto 4, 3) := by decide +kernel
theorem dX4_voiceCell_25 : decode cX4_voiceCell 25 = .ok (.iconst 0, 1) := by decide +kernel
theorem dX4_voiceCell_26 : decode cX4_voiceCell 26 = .ok (.istore_n 3, 1) := by decide +kernel
theorem dX4_voiceCell_27 : decode cX4_voiceCell 27 = .ok (.iload_n 3, 1) := by decide +kernel
theorem dX4_voiceCell_28 : decode cX4_voiceCell 28 = .ok (.ifCond .eq 18, 3) := by decide +kernel
theorem dX4_voiceCell_31 : decode cX4_voiceCell 31 = .ok (.iload_n 1, 1) := by decide +kernel
theorem dX4_voiceCell_32 : decode cX4_voiceCell 32 = .ok (.bipush 57, 2) := by decide +kernel
theorem dX4_voiceCell_34 : decode cX4_voiceCell 34 = .ok (.imul, 1) := by decide +kernel
theorem dX4_voiceCell_35 : decode cX4_voiceCell 35 = .ok (.bipush 7, 2) := by decide +kernel
theorem dX4_voiceCell_37 : decode cX4_voiceCell 37 = .ok (.iadd, 1) := by decide +kernel
theorem dX4_voiceCell_38 : decode cX4_voiceCell 38 = .ok (.iload_n 2, 1) := by decide +kernel
theorem dX4_voiceCell_39 : decode cX4_voiceCell 39 = .ok (.bipush 25, 2) := by decide +kernel
theorem dX4_voiceCell_41 : decode cX4_voiceCell 41 = .ok (.imul, 1) := by decide +kernel
theorem dX4_voiceCell_42 : decode cX4_voiceCell 42 = .ok (.iadd, 1) := by decide +kernel
theorem dX4_voiceCell_43 : decode cX4_voiceCell 43 = .ok (.goto 4, 3) := by decide +kernel
theorem dX4_voiceCell_46 : decode cX4_voiceCell 46 = .ok (.iconst (-1), 1) := by decide +kernel
theorem dX4_voiceCell_47 : decode cX4_voiceCell 47 = .ok (.ireturn, 1) := by decide +kernel
theorem dX4_appendMeasure_0 : decode cX4_appendMeasure 0 = .ok (.aload_n 0, 1) := by decide +kernel
theorem dX4_appendMeasure_1 : decode cX4_appendMeasure 1 = .ok (.invokevirtual 30, 3) := by decide +kernel
theorem dX4_appendMeasure_4 : decode cX4_appendMeasure 4 = .ok (.ifCond .eq 4, 3) := by decide +kernel
theorem dX4_appendMeasure_7 : decode cX4_appendMeasure 7 = .ok (.return_, 1) := by decide +kernel
theorem dX4_appendMeasure_8 : decode cX4_appendMeasure 8 = .ok (.aload_n 0, 1) := by decide +kernel
theorem dX4_appendMeasure_9 : decode cX4_appendMeasure 9 = .ok (.getfield 13, 3) := by decide +kernel
theorem dX4_appendMeasure_12 : decode cX4_appendMeasure 12 = .ok (.iconst 1, 1) := by decide +kernel
theorem dX4_appendMeasure_13 : decode cX4_appendMeasure 13 = .ok (.isub, 1) := by decide +kernel
theorem dX4_appendMeasure_14 : decode cX4_appendMeasure 14 = .ok (.istore_n 1, 1) := by decide +kernel
theorem dX4_appendMeasure_15 : decode cX4_appendMeasure 15 = .ok (.aload_n 0, 1) := by decide +kernel
theorem dX4_appendMeasure_16 : decode cX4_appendMeasure 16 = .ok (.getfield 9, 3) := by decide +kernel
theorem dX4_appendMeasure_19 : decode cX4_appendMeasure 19 = .ok (.aload_n 0, 1) := by decide +kernel
theorem dX4_appendMeasure_20 : decode cX4_appendMeasure 20 = .ok (.getfield 13, 3) := by decide +kernel
theorem dX4_appendMeasure_23 : decode cX4_appendMeasure 23 = .ok (.bipush 57, 2) := by decide +kernel
theorem dX4_appendMeasure_25 : decode cX4_appendMeasure 25 = .ok (.imul, 1) := by decide +kernel
theorem dX4_appendMeasure_26 : decode cX4_appendMeasure 26 = .ok (.aload_n 0, 1) := by decide +kernel
theorem dX4_appendMeasure_27 : decode cX4_appendMeasure 27 = .ok (.getfield 13, 3) := by decide +kernel
theorem dX4_appendMeasure_30 : decode cX4_appendMeasure 30 = .ok (.iconst 1, 1) := by decide +kernel
theorem dX4_appendMeasure_31 : decode cX4_appendMeasure 31 = .ok (.iadd, 1) := by decide +kernel
theorem dX4_appendMeasure_32 : decode cX4_appendMeasure 32 = .ok (.bipush 57, 2) := by decide +kernel
theorem dX4_appendMeasure_34 : decode cX4_appendMeasure 34 = .ok (.imul, 1) := by decide +kernel
theorem dX4_appendMeasure_35 : decode cX4_appendMeasure 35 = .ok (.iconst 0, 1) := by decide +kernel
theorem dX4_appendMeasure_36 : decode cX4_appendMeasure 36 = .ok (.invokestatic 34, 3) := by decide +kernel
theorem dX4_appendMeasure_39 : decode cX4_appendMeasure 39 = .ok (.aload_n 0, 1) := by decide +kernel
theorem dX4_appendMeasure_40 : decode cX4_appendMeasure 40 = .ok (.dup, 1) := by decide +kernel
theorem dX4_appendMeasure_41 : decode cX4_appendMeasure 41 = .ok (.getfield 13, 3) := by decide +kernel
theorem dX4_appendMeasure_44 : decode cX4_appendMeasure 44 = .ok (.iconst 1, 1) := by decide +kernel
theorem dX4_appendMeasure_45 : decode cX4_appendMeasure 45 = .ok (.iadd, 1) := by decide +kernel
theorem dX4_appendMeasure_46 : decode cX4_appendMeasure 46 = .ok (.putfield 13, 3) := by decide +kernel
theorem dX4_appendMeasure_49 : decode cX4_appendMeasure 49 = .ok (.iload_n 1, 1) := by decide +kernel
theorem dX4_appendMeasure_50 : decode cX4_appendMeasure 50 = .ok (.ifCond .ge 7, 3) := by decide +kernel
theorem dX4_appendMeasure_53 : decode cX4_appendMeasure 53 = .ok (.iconst 1, 1) := by decide +kernel
theorem dX4_appendMeasure_54 : decode cX4_appendMeasure 54 = .ok (.goto 4, 3) := by decide +kernel
theorem dX4_appendMeasure_57 : decode cX4_appendMeasure 57 = .ok (.iconst 0, 1) := by decide +kernel
theorem dX4_appendMeasure_58 : decode cX4_appendMeasure 58 = .ok (.istore_n 2, 1) := by decide +kernel
theorem dX4_appendMeasure_59 : decode cX4_appendMeasure 59 = .ok (.aload_n 0, 1) := by decide +kernel
theorem dX4_appendMeasure_60 : decode cX4_appendMeasure 60 = .ok (.aload_n 0, 1) := by decide +kernel
theorem dX4_appendMeasure_61 : decode cX4_appendMeasure 61 = .ok (.getfield 13, 3) := by decide +kernel
theorem dX4_appendMeasure_64 : decode cX4_appendMeasure 64 = .ok (.iconst 1, 1) := by decide +kernel
theorem dX4_appendMeasure_65 : decode cX4_appendMeasure 65 = .ok (.isub, 1) := by decide +kernel
theorem dX4_appendMeasure_66 : decode cX4_appendMeasure 66 = .ok (.iconst 0, 1) := by decide +kernel
theorem dX4_appendMeasure_67 : decode cX4_appendMeasure 67 = .ok (.iload_n 2, 1) := by decide +kernel
theorem dX4_appendMeasure_68 : decode cX4_appendMeasure 68 = .ok (.ifCond .eq 7, 3) := by decide +kernel
theorem dX4_appendMeasure_71 : decode cX4_appendMeasure 71 = .ok (.iconst 0, 1) := by decide +kernel
theorem dX4_appendMeasure_72 : decode cX4_appendMeasure 72 = .ok (.goto 9, 3) := by decide +kernel
theorem dX4_appendMeasure_75 : decode cX4_appendMeasure 75 = .ok (.aload_n 0, 1) := by decide +kernel
theorem dX4_appendMeasure_76 : decode cX4_appendMeasure 76 = .ok (.iload_n 1, 1) := by decide +kernel
theorem dX4_appendMeasure_77 : decode cX4_appendMeasure 77 = .ok (.iconst 0, 1) := by decide +kernel
theorem dX4_appendMeasure_78 : decode cX4_appendMeasure 78 = .ok (.invokevirtual 40, 3) := by decide +kernel
theorem dX4_appendMeasure_81 : decode cX4_appendMeasure 81 = .ok (.invokevirtual 43, 3) := by decide +kernel
theorem dX4_appendMeasure_84 : decode cX4_appendMeasure 84 = .ok (.aload_n 0, 1) := by decide +kernel
theorem dX4_appendMeasure_85 : decode cX4_appendMeasure 85 = .ok (.aload_n 0, 1) := by decide +kernel
theorem dX4_appendMeasure_86 : decode cX4_appendMeasure 86 = .ok (.getfield 13, 3) := by decide +kernel
theorem dX4_appendMeasure_89 : decode cX4_appendMeasure 89 = .ok (.iconst 1, 1) := by decide +kernel
theorem dX4_appendMeasure_90 : decode cX4_appendMeasure 90 = .ok (.isub, 1) := by decide +kernel
theorem dX4_appendMeasure_91 : decode cX4_appendMeasure 91 = .ok (.iconst 1, 1) := by decide +kernel
theorem dX4_appendMeasure_92 : decode cX4_appendMeasure 92 = .ok (.iload_n 2, 1) := by decide +kernel
theorem dX4_appendMeasure_93 : decode cX4_appendMeasure 93 = .ok (.ifCond .eq 7, 3) := by decide +kernel
theorem dX4_appendMeasure_96 : decode cX4_appendMeasure 96 = .ok (.iconst 4, 1) := by decide +kernel
theorem dX4_appendMeasure_97 : decode cX4_appendMeasure 97 = .ok (.goto 9, 3) := by decide +kernel
theorem dX4_appendMeasure_100 : decode cX4_appendMeasure 100 = .ok (.aload_n 0, 1) := by decide +kernel
theorem dX4_appendMeasure_101 : decode cX4_appendMeasure 101 = .ok (.iload_n 1, 1) := by decide +kernel
theorem dX4_appendMeasure_102 : decode cX4_appendMeasure 102 = .ok (.iconst 1, 1) := by decide +kernel
theorem dX4_appendMeasure_103 : decode cX4_appendMeasure 103 = .ok (.invokevirtual 40, 3) := by decide +kernel
theorem dX4_appendMeasure_106 : decode cX4_appendMeasure 106 = .ok (.invokevirtual 43, 3) := by decide +kernel
theorem dX4_appendMeasure_109 : decode cX4_appendMeasure 109 = .ok (.aload_n 0, 1) := by decide +kernel
theorem dX4_appendMeasure_110 : decode cX4_appendMeasure 110 = .ok (.aload_n 0, 1) := by decide +kernel
theorem dX4_appendMeasure_111 : decode cX4_appendMeasure 111 = .ok (.getfield 13, 3) := by decide +kernel
theorem dX4_appendMeasure_114 : decode cX4_appendMeasure 114 = .ok (.iconst 1, 1) := by decide +kernel
theorem dX4_appendMeasure_115 : decode cX4_appendMeasure 115 = .ok (.isub, 1) := by decide +kernel
theorem dX4_appendMeasure_116 : decode cX4_appendMeasure 116 = .ok (.iconst 2, 1) := by decide +kernel
theorem dX4_appendMeasure_117 : decode cX4_appendMeasure 117 = .ok (.iload_n 2, 1) := by decide +kernel
theorem dX4_appendMeasure_118 : decode cX4_appendMeasure 118 = .ok (.ifCond .eq 7, 3) := by decide +kernel
theorem dX4_appendMeasure_121 : decode cX4_appendMeasure 121 = .ok (.iconst 4, 1) := by decide +kernel
theorem dX4_appendMeasure_122 : decode cX4_appendMeasure 122 = .ok (.goto 9, 3) := by decide +kernel
theorem dX4_appendMeasure_125 : decode cX4_appendMeasure 125 = .ok (.aload_n 0, 1) := by decide +kernel
theorem dX4_appendMeasure_126 : decode cX4_appendMeasure 126 = .ok (.iload_n 1, 1) := by decide +kernel
theorem dX4_appendMeasure_127 : decode cX4_appendMeasure 127 = .ok (.iconst 2, 1) := by decide +kernel
theorem dX4_appendMeasure_128 : decode cX4_appendMeasure 128 = .ok (.invokevirtual 40, 3) := by decide +kernel
theorem dX4_appendMeasure_131 : decode cX4_appendMeasure 131 = .ok (.invokevirtual 43, 3) := by decide +kernel
theorem dX4_appendMeasure_134 : decode cX4_appendMeasure 134 = .ok (.aload_n 0, 1) := by decide +kernel
theorem dX4_appendMeasure_135 : decode cX4_appendMeasure 135 = .ok (.aload_n 0, 1) := by decide +kernel
theorem dX4_appendMeasure_136 : decode cX4_appendMeasure 136 = .ok (.getfield 13, 3) := by decide +kernel
theorem dX4_appendMeasure_139 : decode cX4_appendMeasure 139 = .ok (.iconst 1, 1) := by decide +kernel
theorem dX4_appendMeasure_140 : decode cX4_appendMeasure 140 = .ok (.isub, 1) := by decide +kernel
theorem dX4_appendMeasure_141 : decode cX4_appendMeasure 141 = .ok (.iconst 3, 1) := by decide +kernel
theorem dX4_appendMeasure_142 : decode cX4_appendMeasure 142 = .ok (.iload_n 2, 1) := by decide +kernel
theorem dX4_appendMeasure_143 : decode cX4_appendMeasure 143 = .ok (.ifCond .eq 8, 3) := by decide +kernel
theorem dX4_appendMeasure_146 : decode cX4_appendMeasure 146 = .ok (.bipush 120, 2) := by decide +kernel
theorem dX4_appendMeasure_148 : decode cX4_appendMeasure 148 = .ok (.goto 9, 3) := by decide +kernel
theorem dX4_appendMeasure_151 : decode cX4_appendMeasure 151 = .ok (.aload_n 0, 1) := by decide +kernel
theorem dX4_appendMeasure_152 : decode cX4_appendMeasure 152 = .ok (.iload_n 1, 1) := by decide +kernel
theorem dX4_appendMeasure_153 : decode cX4_appendMeasure 153 = .ok (.iconst 3, 1) := by decide +kernel
theorem dX4_appendMeasure_154 : decode cX4_appendMeasure 154 = .ok (.invokevirtual 40, 3) := by decide +kernel
theorem dX4_appendMeasure_157 : decode cX4_appendMeasure 157 = .ok (.invokevirtual 43, 3) := by decide +kernel
theorem dX4_appendMeasure_160 : decode cX4_appendMeasure 160 = .ok (.return_, 1) := by decide +kernel
theorem dX4_dropMeasure_0 : decode cX4_dropMeasure 0 = .ok (.aload_n 0, 1) := by decide +kernel
theorem dX4_dropMeasure_1 : decode cX4_dropMeasure 1 = .ok (.iload_n 1, 1) := by decide +kernel
theorem dX4_dropMeasure_2 : decode cX4_dropMeasure 2 = .ok (.invokevirtual 24, 3) := by decide +kernel
theorem dX4_dropMeasure_5 : decode cX4_dropMeasure 5 = .ok (.ifCond .eq 47, 3) := by decide +kernel
theorem dX4_dropMeasure_8 : decode cX4_dropMeasure 8 = .ok (.aload_n 0, 1) := by decide +kernel
theorem dX4_dropMeasure_9 : decode cX4_dropMeasure 9 = .ok (.getfield 13, 3) := by decide +kernel
theorem dX4_dropMeasure_12 : decode cX4_dropMeasure 12 = .ok (.iload_n 1, 1) := by decide +kernel
theorem dX4_dropMeasure_13 : decode cX4_dropMeasure 13 = .ok (.isub, 1) := by decide +kernel
theorem dX4_dropMeasure_14 : decode cX4_dropMeasure 14 = .ok (.iconst 1, 1) := by decide +kernel
theorem dX4_dropMeasure_15 : decode cX4_dropMeasure 15 = .ok (.isub, 1) := by decide +kernel
theorem dX4_dropMeasure_16 : decode cX4_dropMeasure 16 = .ok (.istore_n 2, 1) := by decide +kernel
theorem dX4_dropMeasure_17 : decode cX4_dropMeasure 17 = .ok (.aload_n 0, 1) := by decide +kernel
theorem dX4_dropMeasure_18 : decode cX4_dropMeasure 18 = .ok (.getfield 9, 3) := by decide +kernel
theorem dX4_dropMeasure_21 : decode cX4_dropMeasure 21 = .ok (.iload_n 1, 1) := by decide +kernel
theorem dX4_dropMeasure_22 : decode cX4_dropMeasure 22 = .ok (.iconst 1, 1) := by decide +kernel
theorem dX4_dropMeasure_23 : decode cX4_dropMeasure 23 = .ok (.iadd, 1) := by decide +kernel
theorem dX4_dropMeasure_24 : decode cX4_dropMeasure 24 = .ok (.bipush 57, 2) := by decide +kernel
theorem dX4_dropMeasure_26 : decode cX4_dropMeasure 26 = .ok (.imul, 1) := by decide +kernel
theorem dX4_dropMeasure_27 : decode cX4_dropMeasure 27 = .ok (.aload_n 0, 1) := by decide +kernel
theorem dX4_dropMeasure_28 : decode cX4_dropMeasure 28 = .ok (.getfield 9, 3) := by decide +kernel
theorem dX4_dropMeasure_31 : decode cX4_dropMeasure 31 = .ok (.iload_n 1, 1) := by decide +kernel
theorem dX4_dropMeasure_32 : decode cX4_dropMeasure 32 = .ok (.bipush 57, 2) := by decide +kernel
theorem dX4_dropMeasure_34 : decode cX4_dropMeasure 34 = .ok (.imul, 1) := by decide +kernel
theorem dX4_dropMeasure_35 : decode cX4_dropMeasure 35 = .ok (.iload_n 2, 1) := by decide +kernel
theorem dX4_dropMeasure_36 : decode cX4_dropMeasure 36 = .ok (.bipush 57, 2) := by decide +kernel
theorem dX4_dropMeasure_38 : decode cX4_dropMeasure 38 = .ok (.imul, 1) := by decide +kernel
theorem dX4_dropMeasure_39 : decode cX4_dropMeasure 39 = .ok (.invokestatic 47, 3) := by decide +kernel
theorem dX4_dropMeasure_42 : decode cX4_dropMeasure 42 = .ok (.aload_n 0, 1) := by decide +kernel
theorem dX4_dropMeasure_43 : decode cX4_dropMeasure 43 = .ok (.dup, 1) := by decide +kernel
theorem dX4_dropMeasure_44 : decode cX4_dropMeasure 44 = .ok (.getfield 13, 3) := by decide +kernel
theorem dX4_dropMeasure_47 : decode cX4_dropMeasure 47 = .ok (.iconst 1, 1) := by decide +kernel
theorem dX4_dropMeasure_48 : decode cX4_dropMeasure 48 = .ok (.isub, 1) := by decide +kernel
theorem dX4_dropMeasure_49 : decode cX4_dropMeasure 49 = .ok (.putfield 13, 3) := by decide +kernel
theorem dX4_dropMeasure_52 : decode cX4_dropMeasure 52 = .ok (.return_, 1) := by decide +kernel
theorem dX4_appendEvent_0 : decode cX4_appendEvent 0 = .ok (.aload_n 0, 1) := by decide +kernel
theorem dX4_appendEvent_1 : decode cX4_appendEvent 1 = .ok (.iload_n 1, 1) := by decide +kernel
theorem dX4_appendEvent_2 : decode cX4_appendEvent 2 = .ok (.iload_n 2, 1) := by decide +kernel
theorem dX4_appendEvent_3 : decode cX4_appendEvent 3 = .ok (.invokevirtual 17, 3) := by decide +kernel
theorem dX4_appendEvent_6 : decode cX4_appendEvent 6 = .ok (.istore 4, 2) := by decide +kernel
theorem dX4_appendEvent_8 : decode cX4_appendEvent 8 = .ok (.iload 4, 2) := by decide +kernel
theorem dX4_appendEvent_10 : decode cX4_appendEvent 10 = .ok (.ifCond .lt 42, 3) := by decide +kernel
theorem dX4_appendEvent_13 : decode cX4_appendEvent 13 = .ok (.aload_n 0, 1) := by decide +kernel
theorem dX4_appendEvent_14 : decode cX4_appendEvent 14 = .ok (.getfield 9, 3) := by decide +kernel
theorem dX4_appendEvent_17 : decode cX4_appendEvent 17 = .ok (.iload 4, 2) := by decide +kernel
theorem dX4_appendEvent_19 : decode cX4_appendEvent 19 = .ok (.iaload, 1) := by decide +kernel
theorem dX4_appendEvent_20 : decode cX4_appendEvent 20 = .ok (.bipush 24, 2) := by decide +kernel
theorem dX4_appendEvent_22 : decode cX4_appendEvent 22 = .ok (.if_icmp .ge 30, 3) := by decide +kernel
theorem dX4_appendEvent_25 : decode cX4_appendEvent 25 = .ok (.aload_n 0, 1) := by decide +kernel
theorem dX4_appendEvent_26 : decode cX4_appendEvent 26 = .ok (.getfield 9, 3) := by decide +kernel
theorem dX4_appendEvent_29 : decode cX4_appendEvent 29 = .ok (.iload 4, 2) := by decide +kernel
theorem dX4_appendEvent_31 : decode cX4_appendEvent 31 = .ok (.dup2, 1) := by decide +kernel
theorem dX4_appendEvent_32 : decode cX4_appendEvent 32 = .ok (.iaload, 1) := by decide +kernel
theorem dX4_appendEvent_33 : decode cX4_appendEvent 33 = .ok (.iconst 1, 1) := by decide +kernel
theorem dX4_appendEvent_34 : decode cX4_appendEvent 34 = .ok (.iadd, 1) := by decide +kernel
theorem dX4_appendEvent_35 : decode cX4_appendEvent 35 = .ok (.iastore, 1) := by decide +kernel
theorem dX4_appendEvent_36 : decode cX4_appendEvent 36 = .ok (.aload_n 0, 1) := by decide +kernel
theorem dX4_appendEvent_37 : decode cX4_appendEvent 37 = .ok (.getfield 9, 3) := by decide +kernel
theorem dX4_appendEvent_40 : decode cX4_appendEvent 40 = .ok (.iload 4, 2) := by decide +kernel
theorem dX4_appendEvent_42 : decode cX4_appendEvent 42 = .ok (.aload_n 0, 1) := by decide +kernel
theorem dX4_appendEvent_43 : decode cX4_appendEvent 43 = .ok (.getfield 9, 3) := by decide +kernel
theorem dX4_appendEvent_46 : decode cX4_appendEvent 46 = .ok (.iload 4, 2) := by decide +kernel
theorem dX4_appendEvent_48 : decode cX4_appendEvent 48 = .ok (.iaload, 1) := by decide +kernel
theorem dX4_appendEvent_49 : decode cX4_appendEvent 49 = .ok (.iadd, 1) := by decide +kernel
theorem dX4_appendEvent_50 : decode cX4_appendEvent 50 = .ok (.iload_n 3, 1) := by decide +kernel
theorem dX4_appendEvent_51 : decode cX4_appendEvent 51 = .ok (.iastore, 1) := by decide +kernel
theorem dX4_appendEvent_52 : decode cX4_appendEvent 52 = .ok (.return_, 1) := by decide +kernel
theorem dX4_dropEvent_0 : decode cX4_dropEvent 0 = .ok (.aload_n 0, 1) := by decide +kernel
theorem dX4_dropEvent_1 : decode cX4_dropEvent 1 = .ok (.iload_n 1, 1) := by decide +kernel
theorem dX4_dropEvent_2 : decode cX4_dropEvent 2 = .ok (.iload_n 2, 1) := by decide +kernel
theorem dX4_dropEvent_3 : decode cX4_dropEvent 3 = .ok (.invokevirtual 17, 3) := by decide +kernel
theorem dX4_dropEvent_6 : decode cX4_dropEvent 6 = .ok (.istore 4, 2) := by decide +kernel
theorem dX4_dropEvent_8 : decode cX4_dropEvent 8 = .ok (.iload 4, 2) := by decide +kernel
theorem dX4_dropEvent_10 : decode cX4_dropEvent 10 = .ok (.ifCond .lt 65, 3) := by decide +kernel
theorem dX4_dropEvent_13 : decode cX4_dropEvent 13 = .ok (.iload_n 3, 1) := by decide +kernel
theorem dX4_dropEvent_14 : decode cX4_dropEvent 14 = .ok (.ifCond .lt 61, 3) := by decide +kernel
theorem dX4_dropEvent_17 : decode cX4_dropEvent 17 = .ok (.iload_n 3, 1) := by decide +kernel
theorem dX4_dropEvent_18 : decode cX4_dropEvent 18 = .ok (.aload_n 0, 1) := by decide +kernel
theorem dX4_dropEvent_19 : decode cX4_dropEvent 19 = .ok (.getfield 9, 3) := by decide +kernel
theorem dX4_dropEvent_22 : decode cX4_dropEvent 22 = .ok (.iload 4, 2) := by decide +kernel
theorem dX4_dropEvent_24 : decode cX4_dropEvent 24 = .ok (.iaload, 1) := by decide +kernel
theorem dX4_dropEvent_25 : decode cX4_dropEvent 25 = .ok (.if_icmp .ge 50, 3) := by decide +kernel
theorem dX4_dropEvent_28 : decode cX4_dropEvent 28 = .ok (.iload 4, 2) := by decide +kernel
theorem dX4_dropEvent_30 : decode cX4_dropEvent 30 = .ok (.iconst 1, 1) := by decide +kernel
theorem dX4_dropEvent_31 : decode cX4_dropEvent 31 = .ok (.iadd, 1) := by decide +kernel
theorem dX4_dropEvent_32 : decode cX4_dropEvent 32 = .ok (.iload_n 3, 1) := by decide +kernel
theorem dX4_dropEvent_33 : decode cX4_dropEvent 33 = .ok (.iadd, 1) := by decide +kernel
theorem dX4_dropEvent_34 : decode cX4_dropEvent 34 = .ok (.istore 5, 2) := by decide +kernel
theorem dX4_dropEvent_36 : decode cX4_dropEvent 36 = .ok (.aload_n 0, 1) := by decide +kernel
theorem dX4_dropEvent_37 : decode cX4_dropEvent 37 = .ok (.getfield 9, 3) := by decide +kernel
theorem dX4_dropEvent_40 : decode cX4_dropEvent 40 = .ok (.iload 5, 2) := by decide +kernel
theorem dX4_dropEvent_42 : decode cX4_dropEvent 42 = .ok (.iconst 1, 1) := by decide +kernel
theorem dX4_dropEvent_43 : decode cX4_dropEvent 43 = .ok (.iadd, 1) := by decide +kernel
theorem dX4_dropEvent_44 : decode cX4_dropEvent 44 = .ok (.aload_n 0, 1) := by decide +kernel
theorem dX4_dropEvent_45 : decode cX4_dropEvent 45 = .ok (.getfield 9, 3) := by decide +kernel
theorem dX4_dropEvent_48 : decode cX4_dropEvent 48 = .ok (.iload 5, 2) := by decide +kernel
theorem dX4_dropEvent_50 : decode cX4_dropEvent 50 = .ok (.aload_n 0, 1) := by decide +kernel
theorem dX4_dropEvent_51 : decode cX4_dropEvent 51 = .ok (.getfield 9, 3) := by decide +kernel
theorem dX4_dropEvent_54 : decode cX4_dropEvent 54 = .ok (.iload 4, 2) := by decide +kernel
theorem dX4_dropEvent_56 : decode cX4_dropEvent 56 = .ok (.iaload, 1) := by decide +kernel
theorem dX4_dropEvent_57 : decode cX4_dropEvent 57 = .ok (.iload_n 3, 1) := by decide +kernel
theorem dX4_dropEvent_58 : decode cX4_dropEvent 58 = .ok (.isub, 1) := by decide +kernel
theorem dX4_dropEvent_59 : decode cX4_dropEvent 59 = .ok (.iconst 1, 1) := by decide +kernel
theorem dX4_dropEvent_60 : decode cX4_dropEvent 60 = .ok (.isub, 1) := by decide +kernel
theorem dX4_dropEvent_61 : decode cX4_dropEvent 61 = .ok (.invokestatic 47, 3) := by decide +kernel
theorem dX4_dropEvent_64 : decode cX4_dropEvent 64 = .ok (.aload_n 0, 1) := by decide +kernel
theorem dX4_dropEvent_65 : decode cX4_dropEvent 65 = .ok (.getfield 9, 3) := by decide +kernel
theorem dX4_dropEvent_68 : decode cX4_dropEvent 68 = .ok (.iload 4, 2) := by decide +kernel
theorem dX4_dropEvent_70 : decode cX4_dropEvent 70 = .ok (.dup2, 1) := by decide +kernel
theorem dX4_dropEvent_71 : decode cX4_dropEvent 71 = .ok (.iaload, 1) := by decide +kernel
theorem dX4_dropEvent_72 : decode cX4_dropEvent 72 = .ok (.iconst 1, 1) := by decide +kernel
theorem dX4_dropEvent_73 : decode cX4_dropEvent 73 = .ok (.isub, 1) := by decide +kernel
theorem dX4_dropEvent_74 : decode cX4_dropEvent 74 = .ok (.iastore, 1) := by decide +kernel
theorem dX4_dropEvent_75 : decode cX4_dropEvent 75 = .ok (.return_, 1) := by decide +kernel
theorem dX4_copyFrom_0 : decode cX4_copyFrom 0 = .ok (.aload_n 1, 1) := by decide +kernel
theorem dX4_copyFrom_1 : decode cX4_copyFrom 1 = .ok (.getfield 9, 3) := by decide +kernel
theorem dX4_copyFrom_4 : decode cX4_copyFrom 4 = .ok (.iconst 0, 1) := by decide +kernel
theorem dX4_copyFrom_5 : decode cX4_copyFrom 5 = .ok (.aload_n 0, 1) := by decide +kernel
theorem dX4_copyFrom_6 : decode cX4_copyFrom 6 = .ok (.getfield 9, 3) := by decide +kernel
theorem dX4_copyFrom_9 : decode cX4_copyFrom 9 = .ok (.iconst 0, 1) := by decide +kernel
theorem dX4_copyFrom_10 : decode cX4_copyFrom 10 = .ok (.aload_n 1, 1) := by decide +kernel
theorem dX4_copyFrom_11 : decode cX4_copyFrom 11 = .ok (.getfield 13, 3) := by decide +kernel
theorem dX4_copyFrom_14 : decode cX4_copyFrom 14 = .ok (.bipush 57, 2) := by decide +kernel
theorem dX4_copyFrom_16 : decode cX4_copyFrom 16 = .ok (.imul, 1) := by decide +kernel
theorem dX4_copyFrom_17 : decode cX4_copyFrom 17 = .ok (.invokestatic 47, 3) := by decide +kernel
theorem dX4_copyFrom_20 : decode cX4_copyFrom 20 = .ok (.aload_n 0, 1) := by decide +kernel
theorem dX4_copyFrom_21 : decode cX4_copyFrom 21 = .ok (.aload_n 1, 1) := by decide +kernel
theorem dX4_copyFrom_22 : decode cX4_copyFrom 22 = .ok (.getfield 13, 3) := by decide +kernel
theorem dX4_copyFrom_25 : decode cX4_copyFrom 25 = .ok (.putfield 13, 3) := by decide +kernel
theorem dX4_copyFrom_28 : decode cX4_copyFrom 28 = .ok (.return_, 1) := by decide +kernel
theorem dX4_ticks_0 : decode cX4_ticks 0 = .ok (.aload_n 0, 1) := by decide +kernel
theorem dX4_ticks_1 : decode cX4_ticks 1 = .ok (.iload_n 1, 1) := by decide +kernel
theorem dX4_ticks_2 : decode cX4_ticks 2 = .ok (.iconst 2, 1) := by decide +kernel
theorem dX4_ticks_3 : decode cX4_ticks 3 = .ok (.invokevirtual 40, 3) := by decide +kernel
theorem dX4_ticks_6 : decode cX4_ticks 6 = .ok (.istore_n 2, 1) := by decide +kernel
theorem dX4_ticks_7 : decode cX4_ticks 7 = .ok (.iload_n 2, 1) := by decide +kernel
theorem dX4_ticks_8 : decode cX4_ticks 8 = .ok (.ifCond .ne 7, 3) := by decide +kernel
theorem dX4_ticks_11 : decode cX4_ticks 11 = .ok (.iconst 0, 1) := by decide +kernel
theorem dX4_ticks_12 : decode cX4_ticks 12 = .ok (.goto 14, 3) := by decide +kernel
theorem dX4_ticks_15 : decode cX4_ticks 15 = .ok (.bipush 64, 2) := by decide +kernel
theorem dX4_ticks_17 : decode cX4_ticks 17 = .ok (.aload_n 0, 1) := by decide +kernel
theorem dX4_ticks_18 : decode cX4_ticks 18 = .ok (.iload_n 1, 1) := by decide +kernel
theorem dX4_ticks_19 : decode cX4_ticks 19 = .ok (.iconst 1, 1) := by decide +kernel
theorem dX4_ticks_20 : decode cX4_ticks 20 = .ok (.invokevirtual 40, 3) := by decide +kernel
theorem dX4_ticks_23 : decode cX4_ticks 23 = .ok (.imul, 1) := by decide +kernel
theorem dX4_ticks_24 : decode cX4_ticks 24 = .ok (.iload_n 2, 1) := by decide +kernel
theorem dX4_ticks_25 : decode cX4_ticks 25 = .ok (.idiv, 1) := by decide +kernel
theorem dX4_ticks_26 : decode cX4_ticks 26 = .ok (.ireturn, 1) := by decide +kernel
theorem dX4_voiceTicks_0 : decode cX4_voiceTicks 0 = .ok (.aload_n 0, 1) := by decide +kernel
theorem dX4_voiceTicks_1 : decode cX4_voiceTicks 1 = .ok (.iload_n 1, 1) := by decide +kernel
theorem dX4_voiceTicks_2 : decode cX4_voiceTicks 2 = .ok (.iload_n 2, 1) := by decide +kernel
theorem dX4_voiceTicks_3 : decode cX4_voiceTicks 3 = .ok (.aload_n 0, 1) := by decide +kernel
theorem dX4_voiceTicks_4 : decode cX4_voiceTicks 4 = .ok (.iload_n 1, 1) := by decide +kernel
theorem dX4_voiceTicks_5 : decode cX4_voiceTicks 5 = .ok (.iload_n 2, 1) := by decide +kernel
theorem dX4_voiceTicks_6 : decode cX4_voiceTicks 6 = .ok (.invokevirtual 21, 3) := by decide +kernel
theorem dX4_voiceTicks_9 : decode cX4_voiceTicks 9 = .ok (.invokevirtual 53, 3) := by decide +kernel
theorem dX4_voiceTicks_12 : decode cX4_voiceTicks 12 = .ok (.ireturn, 1) := by decide +kernel
theorem dX4_begin_0 : decode cX4_begin 0 = .ok (.iconst 0, 1) := by decide +kernel
theorem dX4_begin_1 : decode cX4_begin 1 = .ok (.istore 4, 2) := by decide +kernel
theorem dX4_begin_3 : decode cX4_begin 3 = .ok (.iconst 0, 1) := by decide +kernel
theorem dX4_begin_4 : decode cX4_begin 4 = .ok (.istore 5, 2) := by decide +kernel
theorem dX4_begin_6 : decode cX4_begin 6 = .ok (.iload 5, 2) := by decide +kernel
theorem dX4_begin_8 : decode cX4_begin 8 = .ok (.iload_n 3, 1) := by decide +kernel
theorem dX4_begin_9 : decode cX4_begin 9 = .ok (.if_icmp .ge 25, 3) := by decide +kernel
theorem dX4_begin_12 : decode cX4_begin 12 = .ok (.iload 4, 2) := by decide +kernel
theorem dX4_begin_14 : decode cX4_begin 14 = .ok (.aload_n 0, 1) := by decide +kernel
theorem dX4_begin_15 : decode cX4_begin 15 = .ok (.iload_n 1, 1) := by decide +kernel
theorem dX4_begin_16 : decode cX4_begin 16 = .ok (.iload_n 2, 1) := by decide +kernel
theorem dX4_begin_17 : decode cX4_begin 17 = .ok (.iload 5, 2) := by decide +kernel
theorem dX4_begin_19 : decode cX4_begin 19 = .ok (.invokevirtual 57, 3) := by decide +kernel
theorem dX4_begin_22 : decode cX4_begin 22 = .ok (.invokestatic 60, 3) := by decide +kernel
theorem dX4_begin_25 : decode cX4_begin 25 = .ok (.iadd, 1) := by decide +kernel
theorem dX4_begin_26 : decode cX4_begin 26 = .ok (.istore 4, 2) := by decide +kernel
theorem dX4_begin_28 : decode cX4_begin 28 = .ok (.iinc 5 1, 3) := by decide +kernel
theorem dX4_begin_31 : decode cX4_begin 31 = .ok (.goto (-25), 3) := by decide +kernel
theorem dX4_begin_34 : decode cX4_begin 34 = .ok (.iload 4, 2) := by decide +kernel
theorem dX4_begin_36 : decode cX4_begin 36 = .ok (.ireturn, 1) := by decide +kernel
theorem dX4_unevenVoices_0 : decode cX4_unevenVoices 0 = .ok (.iconst 0, 1) := by decide +kernel
theorem dX4_unevenVoices_1 : decode cX4_unevenVoices 1 = .ok (.istore_n 1, 1) := by decide +kernel
theorem dX4_unevenVoices_2 : decode cX4_unevenVoices 2 = .ok (.iconst 0, 1) := by decide +kernel
theorem dX4_unevenVoices_3 : decode cX4_unevenVoices 3 = .ok (.istore_n 2, 1) := by decide +kernel
theorem dX4_unevenVoices_4 : decode cX4_unevenVoices 4 = .ok (.iload_n 2, 1) := by decide +kernel
theorem dX4_unevenVoices_5 : decode cX4_unevenVoices 5 = .ok (.aload_n 0, 1) := by decide +kernel
theorem dX4_unevenVoices_6 : decode cX4_unevenVoices 6 = .ok (.getfield 13, 3) := by decide +kernel
theorem dX4_unevenVoices_9 : decode cX4_unevenVoices 9 = .ok (.if_icmp .ge 65, 3) := by decide +kernel
theorem dX4_unevenVoices_12 : decode cX4_unevenVoices 12 = .ok (.iconst 0, 1) := by decide +kernel
theorem dX4_unevenVoices_13 : decode cX4_unevenVoices 13 = .ok (.istore_n 3, 1) := by decide +kernel
theorem dX4_unevenVoices_14 : decode cX4_unevenVoices 14 = .ok (.iload_n 3, 1) := by decide +kernel
theorem dX4_unevenVoices_15 : decode cX4_unevenVoices 15 = .ok (.iconst 2, 1) := by decide +kernel
theorem dX4_unevenVoices_16 : decode cX4_unevenVoices 16 = .ok (.if_icmp .ge 52, 3) := by decide +kernel
theorem dX4_unevenVoices_19 : decode cX4_unevenVoices 19 = .ok (.aload_n 0, 1) := by decide +kernel
theorem dX4_unevenVoices_20 : decode cX4_unevenVoices 20 = .ok (.iload_n 2, 1) := by decide +kernel
theorem dX4_unevenVoices_21 : decode cX4_unevenVoices 21 = .ok (.iload_n 3, 1) := by decide +kernel
theorem dX4_unevenVoices_22 : decode cX4_unevenVoices 22 = .ok (.invokevirtual 21, 3) := by decide +kernel
theorem dX4_unevenVoices_25 : decode cX4_unevenVoices 25 = .ok (.ifCond .le 21, 3) := by decide +kernel
theorem dX4_unevenVoices_28 : decode cX4_unevenVoices 28 = .ok (.aload_n 0, 1) := by decide +kernel
theorem dX4_unevenVoices_29 : decode cX4_unevenVoices 29 = .ok (.iload_n 2, 1) := by decide +kernel
theorem dX4_unevenVoices_30 : decode cX4_unevenVoices 30 = .ok (.iload_n 3, 1) := by decide +kernel
theorem dX4_unevenVoices_31 : decode cX4_unevenVoices 31 = .ok (.invokevirtual 64, 3) := by decide +kernel
theorem dX4_unevenVoices_34 : decode cX4_unevenVoices 34 = .ok (.aload_n 0, 1) := by decide +kernel
theorem dX4_unevenVoices_35 : decode cX4_unevenVoices 35 = .ok (.iload_n 2, 1) := by decide +kernel
theorem dX4_unevenVoices_36 : decode cX4_unevenVoices 36 = .ok (.invokevirtual 67, 3) := by decide +kernel
theorem dX4_unevenVoices_39 : decode cX4_unevenVoices 39 = .ok (.if_icmp .eq 7, 3) := by decide +kernel
theorem dX4_unevenVoices_42 : decode cX4_unevenVoices 42 = .ok (.iconst 1, 1) := by decide +kernel
theorem dX4_unevenVoices_43 : decode cX4_unevenVoices 43 = .ok (.goto 4, 3) := by decide +kernel
theorem dX4_unevenVoices_46 : decode cX4_unevenVoices 46 = .ok (.iconst 0, 1) := by decide +kernel
theorem dX4_unevenVoices_47 : decode cX4_unevenVoices 47 = .ok (.istore 4, 2) := by decide +kernel
theorem dX4_unevenVoices_49 : decode cX4_unevenVoices 49 = .ok (.iload_n 1, 1) := by decide +kernel
theorem dX4_unevenVoices_50 : decode cX4_unevenVoices 50 = .ok (.iload 4, 2) := by decide +kernel
theorem dX4_unevenVoices_52 : decode cX4_unevenVoices 52 = .ok (.ifCond .eq 7, 3) := by decide +kernel
theorem dX4_unevenVoices_55 : decode cX4_unevenVoices 55 = .ok (.iconst 1, 1) := by decide +kernel
theorem dX4_unevenVoices_56 : decode cX4_unevenVoices 56 = .ok (.goto 4, 3) := by decide +kernel
theorem dX4_unevenVoices_59 : decode cX4_unevenVoices 59 = .ok (.iconst 0, 1) := by decide +kernel
theorem dX4_unevenVoices_60 : decode cX4_unevenVoices 60 = .ok (.iadd, 1) := by decide +kernel
theorem dX4_unevenVoices_61 : decode cX4_unevenVoices 61 = .ok (.istore_n 1, 1) := by decide +kernel
theorem dX4_unevenVoices_62 : decode cX4_unevenVoices 62 = .ok (.iinc 3 1, 3) := by decide +kernel
theorem dX4_unevenVoices_65 : decode cX4_unevenVoices 65 = .ok (.goto (-51), 3) := by decide +kernel
theorem dX4_unevenVoices_68 : decode cX4_unevenVoices 68 = .ok (.iinc 2 1, 3) := by decide +kernel
theorem dX4_unevenVoices_71 : decode cX4_unevenVoices 71 = .ok (.goto (-67), 3) := by decide +kernel
theorem dX4_unevenVoices_74 : decode cX4_unevenVoices 74 = .ok (.iload_n 1, 1) := by decide +kernel
theorem dX4_unevenVoices_75 : decode cX4_unevenVoices 75 = .ok (.ireturn, 1) := by decide +kernel
theorem dX4_codeBefore_0 : decode cX4_codeBefore 0 = .ok (.iload_n 3, 1) := by decide +kernel
theorem dX4_codeBefore_1 : decode cX4_codeBefore 1 = .ok (.ifCond .le 15, 3) := by decide +kernel
theorem dX4_codeBefore_4 : decode cX4_codeBefore 4 = .ok (.aload_n 0, 1) := by decide +kernel
theorem dX4_codeBefore_5 : decode cX4_codeBefore 5 = .ok (.iload_n 1, 1) := by decide +kernel
theorem dX4_codeBefore_6 : decode cX4_codeBefore 6 = .ok (.iload_n 2, 1) := by decide +kernel
theorem dX4_codeBefore_7 : decode cX4_codeBefore 7 = .ok (.iload_n 3, 1) := by decide +kernel
theorem dX4_codeBefore_8 : decode cX4_codeBefore 8 = .ok (.iconst 1, 1) := by decide +kernel
theorem dX4_codeBefore_9 : decode cX4_codeBefore 9 = .ok (.isub, 1) := by decide +kernel
theorem dX4_codeBefore_10 : decode cX4_codeBefore 10 = .ok (.invokevirtual 57, 3) := by decide +kernel
theorem dX4_codeBefore_13 : decode cX4_codeBefore 13 = .ok (.goto 21, 3) := by decide +kernel
theorem dX4_codeBefore_16 : decode cX4_codeBefore 16 = .ok (.aload_n 0, 1) := by decide +kernel
theorem dX4_codeBefore_17 : decode cX4_codeBefore 17 = .ok (.iload_n 1, 1) := by decide +kernel
theorem dX4_codeBefore_18 : decode cX4_codeBefore 18 = .ok (.iconst 1, 1) := by decide +kernel
theorem dX4_codeBefore_19 : decode cX4_codeBefore 19 = .ok (.isub, 1) := by decide +kernel
theorem dX4_codeBefore_20 : decode cX4_codeBefore 20 = .ok (.iload_n 2, 1) := by decide +kernel
theorem dX4_codeBefore_21 : decode cX4_codeBefore 21 = .ok (.aload_n 0, 1) := by decide +kernel
theorem dX4_codeBefore_22 : decode cX4_codeBefore 22 = .ok (.iload_n 1, 1) := by decide +kernel
theorem dX4_codeBefore_23 : decode cX4_codeBefore 23 = .ok (.iconst 1, 1) := by decide +kernel
theorem dX4_codeBefore_24 : decode cX4_codeBefore 24 = .ok (.isub, 1) := by decide +kernel
theorem dX4_codeBefore_25 : decode cX4_codeBefore 25 = .ok (.iload_n 2, 1) := by decide +kernel
theorem dX4_codeBefore_26 : decode cX4_codeBefore 26 = .ok (.invokevirtual 21, 3) := by decide +kernel
theorem dX4_codeBefore_29 : decode cX4_codeBefore 29 = .ok (.iconst 1, 1) := by decide +kernel
theorem dX4_codeBefore_30 : decode cX4_codeBefore 30 = .ok (.isub, 1) := by decide +kernel
theorem dX4_codeBefore_31 : decode cX4_codeBefore 31 = .ok (.invokevirtual 57, 3) := by decide +kernel
theorem dX4_codeBefore_34 : decode cX4_codeBefore 34 = .ok (.ireturn, 1) := by decide +kernel
theorem dX4_codeAfter_0 : decode cX4_codeAfter 0 = .ok (.iload_n 3, 1) := by decide +kernel
theorem dX4_codeAfter_1 : decode cX4_codeAfter 1 = .ok (.iconst 1, 1) := by decide +kernel
theorem dX4_codeAfter_2 : decode cX4_codeAfter 2 = .ok (.iadd, 1) := by decide +kernel
theorem dX4_codeAfter_3 : decode cX4_codeAfter 3 = .ok (.aload_n 0, 1) := by decide +kernel
theorem dX4_codeAfter_4 : decode cX4_codeAfter 4 = .ok (.iload_n 1, 1) := by decide +kernel
theorem dX4_codeAfter_5 : decode cX4_codeAfter 5 = .ok (.iload_n 2, 1) := by decide +kernel
theorem dX4_codeAfter_6 : decode cX4_codeAfter 6 = .ok (.invokevirtual 21, 3) := by decide +kernel
theorem dX4_codeAfter_9 : decode cX4_codeAfter 9 = .ok (.if_icmp .ge 15, 3) := by decide +kernel
theorem dX4_codeAfter_12 : decode cX4_codeAfter 12 = .ok (.aload_n 0, 1) := by decide +kernel
theorem dX4_codeAfter_13 : decode cX4_codeAfter 13 = .ok (.iload_n 1, 1) := by decide +kernel
theorem dX4_codeAfter_14 : decode cX4_codeAfter 14 = .ok (.iload_n 2, 1) := by decide +kernel
theorem dX4_codeAfter_15 : decode cX4_codeAfter 15 = .ok (.iload_n 3, 1) := by decide +kernel
theorem dX4_codeAfter_16 : decode cX4_codeAfter 16 = .ok (.iconst 1, 1) := by decide +kernel
theorem dX4_codeAfter_17 : decode cX4_codeAfter 17 = .ok (.iadd, 1) := by decide +kernel
theorem dX4_codeAfter_18 : decode cX4_codeAfter 18 = .ok (.invokevirtual 57, 3) := by decide +kernel
theorem dX4_codeAfter_21 : decode cX4_codeAfter 21 = .ok (.goto 12, 3) := by decide +kernel
theorem dX4_codeAfter_24 : decode cX4_codeAfter 24 = .ok (.aload_n 0, 1) := by decide +kernel
theorem dX4_codeAfter_25 : decode cX4_codeAfter 25 = .ok (.iload_n 1, 1) := by decide +kernel
theorem dX4_codeAfter_26 : decode cX4_codeAfter 26 = .ok (.iconst 1, 1) := by decide +kernel
theorem dX4_codeAfter_27 : decode cX4_codeAfter 27 = .ok (.iadd, 1) := by decide +kernel
theorem dX4_codeAfter_28 : decode cX4_codeAfter 28 = .ok (.iload_n 2, 1) := by decide +kernel
theorem dX4_codeAfter_29 : decode cX4_codeAfter 29 = .ok (.iconst 0, 1) := by decide +kernel
theorem dX4_codeAfter_30 : decode cX4_codeAfter 30 = .ok (.invokevirtual 57, 3) := by decide +kernel
theorem dX4_codeAfter_33 : decode cX4_codeAfter 33 = .ok (.ireturn, 1) := by decide +kernel
theorem dX4_isHeldTie_0 : decode cX4_isHeldTie 0 = .ok (.aload_n 0, 1) := by decide +kernel
theorem dX4_isHeldTie_1 : decode cX4_isHeldTie 1 = .ok (.iload_n 1, 1) := by decide +kernel
theorem dX4_isHeldTie_2 : decode cX4_isHeldTie 2 = .ok (.iload_n 2, 1) := by decide +kernel
theorem dX4_isHeldTie_3 : decode cX4_isHeldTie 3 = .ok (.iload_n 3, 1) := by decide +kernel
theorem dX4_isHeldTie_4 : decode cX4_isHeldTie 4 = .ok (.invokevirtual 57, 3) := by decide +kernel
theorem dX4_isHeldTie_7 : decode cX4_isHeldTie 7 = .ok (.istore 4, 2) := by decide +kernel
theorem dX4_isHeldTie_9 : decode cX4_isHeldTie 9 = .ok (.iload 4, 2) := by decide +kernel
theorem dX4_isHeldTie_11 : decode cX4_isHeldTie 11 = .ok (.invokestatic 70, 3) := by decide +kernel
theorem dX4_isHeldTie_14 : decode cX4_isHeldTie 14 = .ok (.ifCond .eq 22, 3) := by decide +kernel
theorem dX4_isHeldTie_17 : decode cX4_isHeldTie 17 = .ok (.iload 4, 2) := by decide +kernel
theorem dX4_isHeldTie_19 : decode cX4_isHeldTie 19 = .ok (.aload_n 0, 1) := by decide +kernel
theorem dX4_isHeldTie_20 : decode cX4_isHeldTie 20 = .ok (.iload_n 1, 1) := by decide +kernel
theorem dX4_isHeldTie_21 : decode cX4_isHeldTie 21 = .ok (.iload_n 2, 1) := by decide +kernel
theorem dX4_isHeldTie_22 : decode cX4_isHeldTie 22 = .ok (.iload_n 3, 1) := by decide +kernel
theorem dX4_isHeldTie_23 : decode cX4_isHeldTie 23 = .ok (.invokevirtual 73, 3) := by decide +kernel
theorem dX4_isHeldTie_26 : decode cX4_isHeldTie 26 = .ok (.invokestatic 76, 3) := by decide +kernel
theorem dX4_isHeldTie_29 : decode cX4_isHeldTie 29 = .ok (.ifCond .eq 7, 3) := by decide +kernel
theorem dX4_isHeldTie_32 : decode cX4_isHeldTie 32 = .ok (.iconst 1, 1) := by decide +kernel
theorem dX4_isHeldTie_33 : decode cX4_isHeldTie 33 = .ok (.goto 4, 3) := by decide +kernel
theorem dX4_isHeldTie_36 : decode cX4_isHeldTie 36 = .ok (.iconst 0, 1) := by decide +kernel
theorem dX4_isHeldTie_37 : decode cX4_isHeldTie 37 = .ok (.ireturn, 1) := by decide +kernel
theorem dX4_becomeDraft_0 : decode cX4_becomeDraft 0 = .ok (.aload_n 0, 1) := by decide +kernel
theorem dX4_becomeDraft_1 : decode cX4_becomeDraft 1 = .ok (.iconst 0, 1) := by decide +kernel
theorem dX4_becomeDraft_2 : decode cX4_becomeDraft 2 = .ok (.putfield 13, 3) := by decide +kernel
theorem dX4_becomeDraft_5 : decode cX4_becomeDraft 5 = .ok (.aload_n 0, 1) := by decide +kernel
theorem dX4_becomeDraft_6 : decode cX4_becomeDraft 6 = .ok (.invokevirtual 80, 3) := by decide +kernel
theorem dX4_becomeDraft_9 : decode cX4_becomeDraft 9 = .ok (.iconst 0, 1) := by decide +kernel
theorem dX4_becomeDraft_10 : decode cX4_becomeDraft 10 = .ok (.istore_n 1, 1) := by decide +kernel
theorem dX4_becomeDraft_11 : decode cX4_becomeDraft 11 = .ok (.iload_n 1, 1) := by decide +kernel
theorem dX4_becomeDraft_12 : decode cX4_becomeDraft 12 = .ok (.iconst 3, 1) := by decide +kernel
theorem dX4_becomeDraft_13 : decode cX4_becomeDraft 13 = .ok (.if_icmp .gt 17, 3) := by decide +kernel
theorem dX4_becomeDraft_16 : decode cX4_becomeDraft 16 = .ok (.aload_n 0, 1) := by decide +kernel
theorem dX4_becomeDraft_17 : decode cX4_becomeDraft 17 = .ok (.iconst 0, 1) := by decide +kernel
theorem dX4_becomeDraft_18 : decode cX4_becomeDraft 18 = .ok (.iload_n 1, 1) := by decide +kernel
theorem dX4_becomeDraft_19 : decode cX4_becomeDraft 19 = .ok (.bipush (-100), 2) := by decide +kernel
theorem dX4_becomeDraft_21 : decode cX4_becomeDraft 21 = .ok (.invokevirtual 43, 3) := by decide +kernel
theorem dX4_becomeDraft_24 : decode cX4_becomeDraft 24 = .ok (.iinc 1 1, 3) := by decide +kernel
theorem dX4_becomeDraft_27 : decode cX4_becomeDraft 27 = .ok (.goto (-16), 3) := by decide +kernel
theorem dX4_becomeDraft_30 : decode cX4_becomeDraft 30 = .ok (.return_, 1) := by decide +kernel
theorem dX4_takeDraft_0 : decode cX4_takeDraft 0 = .ok (.aload_n 0, 1) := by decide +kernel
theorem dX4_takeDraft_1 : decode cX4_takeDraft 1 = .ok (.iload_n 1, 1) := by decide +kernel
theorem dX4_takeDraft_2 : decode cX4_takeDraft 2 = .ok (.iconst 0, 1) := by decide +kernel
theorem dX4_takeDraft_3 : decode cX4_takeDraft 3 = .ok (.invokevirtual 17, 3) := by decide +kernel
theorem dX4_takeDraft_6 : decode cX4_takeDraft 6 = .ok (.istore_n 3, 1) := by decide +kernel
theorem dX4_takeDraft_7 : decode cX4_takeDraft 7 = .ok (.iload_n 3, 1) := by decide +kernel
theorem dX4_takeDraft_8 : decode cX4_takeDraft 8 = .ok (.ifCond .ge 4, 3) := by decide +kernel
theorem dX4_takeDraft_11 : decode cX4_takeDraft 11 = .ok (.return_, 1) := by decide +kernel
theorem dX4_takeDraft_12 : decode cX4_takeDraft 12 = .ok (.iconst 0, 1) := by decide +kernel
theorem dX4_takeDraft_13 : decode cX4_takeDraft 13 = .ok (.istore 4, 2) := by decide +kernel
theorem dX4_takeDraft_15 : decode cX4_takeDraft 15 = .ok (.iload 4, 2) := by decide +kernel
theorem dX4_takeDraft_17 : decode cX4_takeDraft 17 = .ok (.bipush 7, 2) := by decide +kernel
theorem dX4_takeDraft_19 : decode cX4_takeDraft 19 = .ok (.if_icmp .ge 34, 3) := by decide +kernel
theorem dX4_takeDraft_22 : decode cX4_takeDraft 22 = .ok (.aload_n 2, 1) := by decide +kernel
theorem dX4_takeDraft_23 : decode cX4_takeDraft 23 = .ok (.iconst 0, 1) := by decide +kernel
theorem dX4_takeDraft_24 : decode cX4_takeDraft 24 = .ok (.iload 4, 2) := by decide +kernel
theorem dX4_takeDraft_26 : decode cX4_takeDraft 26 = .ok (.invokevirtual 40, 3) := by decide +kernel
theorem dX4_takeDraft_29 : decode cX4_takeDraft 29 = .ok (.istore 5, 2) := by decide +kernel
theorem dX4_takeDraft_31 : decode cX4_takeDraft 31 = .ok (.iload 5, 2) := by decide +kernel
theorem dX4_takeDraft_33 : decode cX4_takeDraft 33 = .ok (.bipush (-100), 2) := by decide +kernel
theorem dX4_takeDraft_35 : decode cX4_takeDraft 35 = .ok (.if_icmp .eq 12, 3) := by decide +kernel
theorem dX4_takeDraft_38 : decode cX4_takeDraft 38 = .ok (.aload_n 0, 1) := by decide +kernel
theorem dX4_takeDraft_39 : decode cX4_takeDraft 39 = .ok (.iload_n 1, 1) := by decide +kernel
theorem dX4_takeDraft_40 : decode cX4_takeDraft 40 = .ok (.iload 4, 2) := by decide +kernel
theorem dX4_takeDraft_42 : decode cX4_takeDraft 42 = .ok (.iload 5, 2) := by decide +kernel
theorem dX4_takeDraft_44 : decode cX4_takeDraft 44 = .ok (.invokevirtual 43, 3) := by decide +kernel
theorem dX4_takeDraft_47 : decode cX4_takeDraft 47 = .ok (.iinc 4 1, 3) := by decide +kernel
theorem dX4_takeDraft_50 : decode cX4_takeDraft 50 = .ok (.goto (-35), 3) := by decide +kernel
theorem dX4_takeDraft_53 : decode cX4_takeDraft 53 = .ok (.aload_n 2, 1) := by decide +kernel
theorem dX4_takeDraft_54 : decode cX4_takeDraft 54 = .ok (.getfield 9, 3) := by decide +kernel
theorem dX4_takeDraft_57 : decode cX4_takeDraft 57 = .ok (.bipush 7, 2) := by decide +kernel
theorem dX4_takeDraft_59 : decode cX4_takeDraft 59 = .ok (.aload_n 0, 1) := by decide +kernel
theorem dX4_takeDraft_60 : decode cX4_takeDraft 60 = .ok (.getfield 9, 3) := by decide +kernel
theorem dX4_takeDraft_63 : decode cX4_takeDraft 63 = .ok (.iload_n 3, 1) := by decide +kernel
theorem dX4_takeDraft_64 : decode cX4_takeDraft 64 = .ok (.bipush 50, 2) := by decide +kernel
theorem dX4_takeDraft_66 : decode cX4_takeDraft 66 = .ok (.invokestatic 47, 3) := by decide +kernel
theorem dX4_takeDraft_69 : decode cX4_takeDraft 69 = .ok (.return_, 1) := by decide +kernel
theorem dX4_agreesWith_0 : decode cX4_agreesWith 0 = .ok (.iconst 0, 1) := by decide +kernel
theorem dX4_agreesWith_1 : decode cX4_agreesWith 1 = .ok (.istore_n 3, 1) := by decide +kernel
theorem dX4_agreesWith_2 : decode cX4_agreesWith 2 = .ok (.iload_n 3, 1) := by decide +kernel
theorem dX4_agreesWith_3 : decode cX4_agreesWith 3 = .ok (.bipush 7, 2) := by decide +kernel
theorem dX4_agreesWith_5 : decode cX4_agreesWith 5 = .ok (.if_icmp .ge 37, 3) := by decide +kernel
theorem dX4_agreesWith_8 : decode cX4_agreesWith 8 = .ok (.aload_n 2, 1) := by decide +kernel
theorem dX4_agreesWith_9 : decode cX4_agreesWith 9 = .ok (.iconst 0, 1) := by decide +kernel
theorem dX4_agreesWith_10 : decode cX4_agreesWith 10 = .ok (.iload_n 3, 1) := by decide +kernel
theorem dX4_agreesWith_11 : decode cX4_agreesWith 11 = .ok (.invokevirtual 40, 3) := by decide +kernel
theorem dX4_agreesWith_14 : decode cX4_agreesWith 14 = .ok (.istore 4, 2) := by decide +kernel
theorem dX4_agreesWith_16 : decode cX4_agreesWith 16 = .ok (.iload 4, 2) := by decide +kernel
theorem dX4_agreesWith_18 : decode cX4_agreesWith 18 = .ok (.bipush (-100), 2) := by decide +kernel
theorem dX4_agreesWith_20 : decode cX4_agreesWith 20 = .ok (.if_icmp .eq 16, 3) := by decide +kernel
theorem dX4_agreesWith_23 : decode cX4_agreesWith 23 = .ok (.iload 4, 2) := by decide +kernel
theorem dX4_agreesWith_25 : decode cX4_agreesWith 25 = .ok (.aload_n 0, 1) := by decide +kernel
theorem dX4_agreesWith_26 : decode cX4_agreesWith 26 = .ok (.iload_n 1, 1) := by decide +kernel
theorem dX4_agreesWith_27 : decode cX4_agreesWith 27 = .ok (.iload_n 3, 1) := by decide +kernel
theorem dX4_agreesWith_28 : decode cX4_agreesWith 28 = .ok (.invokevirtual 40, 3) := by decide +kernel
theorem dX4_agreesWith_31 : decode cX4_agreesWith 31 = .ok (.if_icmp .eq 5, 3) := by decide +kernel
theorem dX4_agreesWith_34 : decode cX4_agreesWith 34 = .ok (.iconst 0, 1) := by decide +kernel
theorem dX4_agreesWith_35 : decode cX4_agreesWith 35 = .ok (.ireturn, 1) := by decide +kernel
theorem dX4_agreesWith_36 : decode cX4_agreesWith 36 = .ok (.iinc 3 1, 3) := by decide +kernel
theorem dX4_agreesWith_39 : decode cX4_agreesWith 39 = .ok (.goto (-37), 3) := by decide +kernel
theorem dX4_agreesWith_42 : decode cX4_agreesWith 42 = .ok (.aload_n 0, 1) := by decide +kernel
theorem dX4_agreesWith_43 : decode cX4_agreesWith 43 = .ok (.iload_n 1, 1) := by decide +kernel
theorem dX4_agreesWith_44 : decode cX4_agreesWith 44 = .ok (.aload_n 2, 1) := by decide +kernel
theorem dX4_agreesWith_45 : decode cX4_agreesWith 45 = .ok (.iconst 0, 1) := by decide +kernel
theorem dX4_agreesWith_46 : decode cX4_agreesWith 46 = .ok (.invokevirtual 83, 3) := by decide +kernel
theorem dX4_agreesWith_49 : decode cX4_agreesWith 49 = .ok (.ifCond .eq 17, 3) := by decide +kernel
theorem dX4_agreesWith_52 : decode cX4_agreesWith 52 = .ok (.aload_n 0, 1) := by decide +kernel
theorem dX4_agreesWith_53 : decode cX4_agreesWith 53 = .ok (.iload_n 1, 1) := by decide +kernel
theorem dX4_agreesWith_54 : decode cX4_agreesWith 54 = .ok (.aload_n 2, 1) := by decide +kernel
theorem dX4_agreesWith_55 : decode cX4_agreesWith 55 = .ok (.iconst 1, 1) := by decide +kernel
theorem dX4_agreesWith_56 : decode cX4_agreesWith 56 = .ok (.invokevirtual 83, 3) := by decide +kernel
theorem dX4_agreesWith_59 : decode cX4_agreesWith 59 = .ok (.ifCond .eq 7, 3) := by decide +kernel
theorem dX4_agreesWith_62 : decode cX4_agreesWith 62 = .ok (.iconst 1, 1) := by decide +kernel
theorem dX4_agreesWith_63 : decode cX4_agreesWith 63 = .ok (.goto 4, 3) := by decide +kernel
theorem dX4_agreesWith_66 : decode cX4_agreesWith 66 = .ok (.iconst 0, 1) := by decide +kernel
theorem dX4_agreesWith_67 : decode cX4_agreesWith 67 = .ok (.ireturn, 1) := by decide +kernel
theorem dX4_hasVoiceOf_0 : decode cX4_hasVoiceOf 0 = .ok (.aload_n 0, 1) := by decide +kernel
theorem dX4_hasVoiceOf_1 : decode cX4_hasVoiceOf 1 = .ok (.iload_n 1, 1) := by decide +kernel
theorem dX4_hasVoiceOf_2 : decode cX4_hasVoiceOf 2 = .ok (.iload_n 3, 1) := by decide +kernel
theorem dX4_hasVoiceOf_3 : decode cX4_hasVoiceOf 3 = .ok (.invokevirtual 21, 3) := by decide +kernel
theorem dX4_hasVoiceOf_6 : decode cX4_hasVoiceOf 6 = .ok (.aload_n 2, 1) := by decide +kernel
theorem dX4_hasVoiceOf_7 : decode cX4_hasVoiceOf 7 = .ok (.iconst 0, 1) := by decide +kernel
theorem dX4_hasVoiceOf_8 : decode cX4_hasVoiceOf 8 = .ok (.iload_n 3, 1) := by decide +kernel
theorem dX4_hasVoiceOf_9 : decode cX4_hasVoiceOf 9 = .ok (.invokevirtual 21, 3) := by decide +kernel
theorem dX4_hasVoiceOf_12 : decode cX4_hasVoiceOf 12 = .ok (.if_icmp .eq 5, 3) := by decide +kernel
theorem dX4_hasVoiceOf_15 : decode cX4_hasVoiceOf 15 = .ok (.iconst 0, 1) := by decide +kernel
theorem dX4_hasVoiceOf_16 : decode cX4_hasVoiceOf 16 = .ok (.ireturn, 1) := by decide +kernel
theorem dX4_hasVoiceOf_17 : decode cX4_hasVoiceOf 17 = .ok (.iconst 0, 1) := by decide +kernel
theorem dX4_hasVoiceOf_18 : decode cX4_hasVoiceOf 18 = .ok (.istore 4, 2) := by decide +kernel
theorem dX4_hasVoiceOf_20 : decode cX4_hasVoiceOf 20 = .ok (.iload 4, 2) := by decide +kernel
theorem dX4_hasVoiceOf_22 : decode cX4_hasVoiceOf 22 = .ok (.aload_n 0, 1) := by decide +kernel
theorem dX4_hasVoiceOf_23 : decode cX4_hasVoiceOf 23 = .ok (.iload_n 1, 1) := by decide +kernel
theorem dX4_hasVoiceOf_24 : decode cX4_hasVoiceOf 24 = .ok (.iload_n 3, 1) := by decide +kernel
theorem dX4_hasVoiceOf_25 : decode cX4_hasVoiceOf 25 = .ok (.invokevirtual 21, 3) := by decide +kernel
theorem dX4_hasVoiceOf_28 : decode cX4_hasVoiceOf 28 = .ok (.if_icmp .ge 30, 3) := by decide +kernel
theorem dX4_hasVoiceOf_31 : decode cX4_hasVoiceOf 31 = .ok (.aload_n 0, 1) := by decide +kernel
theorem dX4_hasVoiceOf_32 : decode cX4_hasVoiceOf 32 = .ok (.iload_n 1, 1) := by decide +kernel
theorem dX4_hasVoiceOf_33 : decode cX4_hasVoiceOf 33 = .ok (.iload_n 3, 1) := by decide +kernel
theorem dX4_hasVoiceOf_34 : decode cX4_hasVoiceOf 34 = .ok (.iload 4, 2) := by decide +kernel
theorem dX4_hasVoiceOf_36 : decode cX4_hasVoiceOf 36 = .ok (.invokevirtual 57, 3) := by decide +kernel
theorem dX4_hasVoiceOf_39 : decode cX4_hasVoiceOf 39 = .ok (.aload_n 2, 1) := by decide +kernel
theorem dX4_hasVoiceOf_40 : decode cX4_hasVoiceOf 40 = .ok (.iconst 0, 1) := by decide +kernel
theorem dX4_hasVoiceOf_41 : decode cX4_hasVoiceOf 41 = .ok (.iload_n 3, 1) := by decide +kernel
theorem dX4_hasVoiceOf_42 : decode cX4_hasVoiceOf 42 = .ok (.iload 4, 2) := by decide +kernel
theorem dX4_hasVoiceOf_44 : decode cX4_hasVoiceOf 44 = .ok (.invokevirtual 57, 3) := by decide +kernel
theorem dX4_hasVoiceOf_47 : decode cX4_hasVoiceOf 47 = .ok (.if_icmp .eq 5, 3) := by decide +kernel
theorem dX4_hasVoiceOf_50 : decode cX4_hasVoiceOf 50 = .ok (.iconst 0, 1) := by decide +kernel
theorem dX4_hasVoiceOf_51 : decode cX4_hasVoiceOf 51 = .ok (.ireturn, 1) := by decide +kernel
theorem dX4_hasVoiceOf_52 : decode cX4_hasVoiceOf 52 = .ok (.iinc 4 1, 3) := by decide +kernel
theorem dX4_hasVoiceOf_55 : decode cX4_hasVoiceOf 55 = .ok (.goto (-35), 3) := by decide +kernel
theorem dX4_hasVoiceOf_58 : decode cX4_hasVoiceOf 58 = .ok (.iconst 1, 1) := by decide +kernel
theorem dX4_hasVoiceOf_59 : decode cX4_hasVoiceOf 59 = .ok (.ireturn, 1) := by decide +kernel
theorem dX5_init_0 : decode cX5_init 0 = .ok (.aload_n 0, 1) := by decide +kernel
theorem dX5_init_1 : decode cX5_init 1 = .ok (.invokespecial 1, 3) := by decide +kernel
theorem dX5_init_4 : decode cX5_init 4 = .ok (.aload_n 0, 1) := by decide +kernel
theorem dX5_init_5 : decode cX5_init 5 = .ok (.sipush 1702, 3) := by decide +kernel
theorem dX5_init_8 : decode cX5_init 8 = .ok (.newarray .byte, 2) := by decide +kernel
theorem dX5_init_10 : decode cX5_init 10 = .ok (.putfield 9, 3) := by decide +kernel
theorem dX5_init_13 : decode cX5_init 13 = .ok (.return_, 1) := by decide +kernel
theorem dX5_length_0 : decode cX5_length 0 = .ok (.aload_n 0, 1) := by decide +kernel
theorem dX5_length_1 : decode cX5_length 1 = .ok (.getfield 13, 3) := by decide +kernel
theorem dX5_length_4 : decode cX5_length 4 = .ok (.ireturn, 1) := by decide +kernel
theorem dX5_wordCount_0 : decode cX5_wordCount 0 = .ok (.aload_n 0, 1) := by decide +kernel
theorem dX5_wordCount_1 : decode cX5_wordCount 1 = .ok (.getfield 17, 3) := by decide +kernel
theorem dX5_wordCount_4 : decode cX5_wordCount 4 = .ok (.ireturn, 1) := by decide +kernel
theorem dX5_at_0 : decode cX5_at 0 = .ok (.iload_n 1, 1) := by decide +kernel
theorem dX5_at_1 : decode cX5_at 1 = .ok (.ifCond .lt 27, 3) := by decide +kernel
theorem dX5_at_4 : decode cX5_at 4 = .ok (.iload_n 1, 1) := by decide +kernel
theorem dX5_at_5 : decode cX5_at 5 = .ok (.aload_n 0, 1) := by decide +kernel
theorem dX5_at_6 : decode cX5_at 6 = .ok (.getfield 13, 3) := by decide +kernel
theorem dX5_at_9 : decode cX5_at 9 = .ok (.if_icmp .ge 19, 3) := by decide +kernel
theorem dX5_at_12 : decode cX5_at 12 = .ok (.iload_n 1, 1) := by decide +kernel
theorem dX5_at_13 : decode cX5_at 13 = .ok (.sipush 1702, 3) := by decide +kernel
theorem dX5_at_16 : decode cX5_at 16 = .ok (.if_icmp .ge 12, 3) := by decide +kernel
theorem dX5_at_19 : decode cX5_at 19 = .ok (.aload_n 0, 1) := by decide +kernel
theorem dX5_at_20 : decode cX5_at 20 = .ok (.getfield 9, 3) := by decide +kernel
theorem dX5_at_23 : decode cX5_at 23 = .ok (.iload_n 1, 1) := by decide +kernel
theorem dX5_at_24 : decode cX5_at 24 = .ok (.baload, 1) := by decide +kernel
theorem dX5_at_25 : decode cX5_at 25 = .ok (.goto 4, 3) := by decide +kernel
theorem dX5_at_28 : decode cX5_at 28 = .ok (.iconst 0, 1) := by decide +kernel
theorem dX5_at_29 : decode cX5_at 29 = .ok (.ireturn, 1) := by decide +kernel
theorem dX5_tellMeasure_0 : decode cX5_tellMeasure 0 = .ok (.aload_n 0, 1) := by decide +kernel
theorem dX5_tellMeasure_1 : decode cX5_tellMeasure 1 = .ok (.iconst 0, 1) := by decide +kernel
theorem dX5_tellMeasure_2 : decode cX5_tellMeasure 2 = .ok (.putfield 13, 3) := by decide +kernel
theorem dX5_tellMeasure_5 : decode cX5_tellMeasure 5 = .ok (.aload_n 0, 1) := by decide +kernel
theorem dX5_tellMeasure_6 : decode cX5_tellMeasure 6 = .ok (.iconst 0, 1) := by decide +kernel
theorem dX5_tellMeasure_7 : decode cX5_tellMeasure 7 = .ok (.putfield 17, 3) := by decide +kernel
theorem dX5_tellMeasure_10 : decode cX5_tellMeasure 10 = .ok (.aload_n 0, 1) := by decide +kernel
theorem dX5_tellMeasure_11 : decode cX5_tellMeasure 11 = .ok (.ldc 22, 2) := by decide +kernel
theorem dX5_tellMeasure_13 : decode cX5_tellMeasure 13 = .ok (.iload_n 2, 1) := by decide +kernel
theorem dX5_tellMeasure_14 : decode cX5_tellMeasure 14 = .ok (.iconst 1, 1) := by decide +kernel
theorem dX5_tellMeasure_15 : decode cX5_tellMeasure 15 = .ok (.iadd, 1) := by decide +kernel
theorem dX5_tellMeasure_16 : decode cX5_tellMeasure 16 = .ok (.invokevirtual 24, 3) := by decide +kernel
theorem dX5_tellMeasure_19 : decode cX5_tellMeasure 19 = .ok (.aload_n 1, 1) := by decide +kernel
theorem dX5_tellMeasure_20 : decode cX5_tellMeasure 20 = .ok (.iload_n 2, 1) := by decide +kernel
theorem dX5_tellMeasure_21 : decode cX5_tellMeasure 21 = .ok (.iconst 4, 1) := by decide +kernel
theorem dX5_tellMeasure_22 : decode cX5_tellMeasure 22 = .ok (.invokevirtual 30, 3) := by decide +kernel
theorem dX5_tellMeasure_25 : decode cX5_tellMeasure 25 = .ok (.iconst 1, 1) := by decide +kernel
theorem dX5_tellMeasure_26 : decode cX5_tellMeasure 26 = .ok (.if_icmp .ne 9, 3) := by decide +kernel
theorem dX5_tellMeasure_29 : decode cX5_tellMeasure 29 = .ok (.aload_n 0, 1) := by decide +kernel
theorem dX5_tellMeasure_30 : decode cX5_tellMeasure 30 = .ok (.ldc 34, 2) := by decide +kernel
theorem dX5_tellMeasure_32 : decode cX5_tellMeasure 32 = .ok (.invokevirtual 36, 3) := by decide +kernel
theorem dX5_tellMeasure_35 : decode cX5_tellMeasure 35 = .ok (.aload_n 1, 1) := by decide +kernel
theorem dX5_tellMeasure_36 : decode cX5_tellMeasure 36 = .ok (.iload_n 2, 1) := by decide +kernel
theorem dX5_tellMeasure_37 : decode cX5_tellMeasure 37 = .ok (.bipush 6, 2) := by decide +kernel
theorem dX5_tellMeasure_39 : decode cX5_tellMeasure 39 = .ok (.invokevirtual 30, 3) := by decide +kernel
theorem dX5_tellMeasure_42 : decode cX5_tellMeasure 42 = .ok (.ifCond .eq 16, 3) := by decide +kernel
theorem dX5_tellMeasure_45 : decode cX5_tellMeasure 45 = .ok (.aload_n 0, 1) := by decide +kernel
theorem dX5_tellMeasure_46 : decode cX5_tellMeasure 46 = .ok (.ldc 40, 2) := by decide +kernel
theorem dX5_tellMeasure_48 : decode cX5_tellMeasure 48 = .ok (.aload_n 1, 1) := by decide +kernel
theorem dX5_tellMeasure_49 : decode cX5_tellMeasure 49 = .ok (.iload_n 2, 1) := by decide +kernel
theorem dX5_tellMeasure_50 : decode cX5_tellMeasure 50 = .ok (.bipush 6, 2) := by decide +kernel
theorem dX5_tellMeasure_52 : decode cX5_tellMeasure 52 = .ok (.invokevirtual 30, 3) := by decide +kernel
theorem dX5_tellMeasure_55 : decode cX5_tellMeasure 55 = .ok (.invokevirtual 24, 3) := by decide +kernel
theorem dX5_tellMeasure_58 : decode cX5_tellMeasure 58 = .ok (.iload_n 2, 1) := by decide +kernel
theorem dX5_tellMeasure_59 : decode cX5_tellMeasure 59 = .ok (.ifCond .eq 12, 3) := by decide +kernel
theorem dX5_tellMeasure_62 : decode cX5_tellMeasure 62 = .ok (.aload_n 1, 1) := by decide +kernel
theorem dX5_tellMeasure_63 : decode cX5_tellMeasure 63 = .ok (.iload_n 2, 1) := by decide +kernel
theorem dX5_tellMeasure_64 : decode cX5_tellMeasure 64 = .ok (.iconst 0, 1) := by decide +kernel
theorem dX5_tellMeasure_65 : decode cX5_tellMeasure 65 = .ok (.invokestatic 42, 3) := by decide +kernel
theorem dX5_tellMeasure_68 : decode cX5_tellMeasure 68 = .ok (.ifCond .eq 13, 3) := by decide +kernel
theorem dX5_tellMeasure_71 : decode cX5_tellMeasure 71 = .ok (.aload_n 0, 1) := by decide +kernel
theorem dX5_tellMeasure_72 : decode cX5_tellMeasure 72 = .ok (.aload_n 1, 1) := by decide +kernel
theorem dX5_tellMeasure_73 : decode cX5_tellMeasure 73 = .ok (.iload_n 2, 1) := by decide +kernel
theorem dX5_tellMeasure_74 : decode cX5_tellMeasure 74 = .ok (.iconst 0, 1) := by decide +kernel
theorem dX5_tellMeasure_75 : decode cX5_tellMeasure 75 = .ok (.invokevirtual 30, 3) := by decide +kernel
theorem dX5_tellMeasure_78 : decode cX5_tellMeasure 78 = .ok (.invokevirtual 46, 3) := by decide +kernel
theorem dX5_tellMeasure_81 : decode cX5_tellMeasure 81 = .ok (.iload_n 2, 1) := by decide +kernel
theorem dX5_tellMeasure_82 : decode cX5_tellMeasure 82 = .ok (.ifCond .eq 21, 3) := by decide +kernel
theorem dX5_tellMeasure_85 : decode cX5_tellMeasure 85 = .ok (.aload_n 1, 1) := by decide +kernel
theorem dX5_tellMeasure_86 : decode cX5_tellMeasure 86 = .ok (.iload_n 2, 1) := by decide +kernel
theorem dX5_tellMeasure_87 : decode cX5_tellMeasure 87 = .ok (.iconst 1, 1) := by decide +kernel
theorem dX5_tellMeasure_88 : decode cX5_tellMeasure 88 = .ok (.invokestatic 42, 3) := by decide +kernel
theorem dX5_tellMeasure_91 : decode cX5_tellMeasure 91 = .ok (.ifCond .ne 12, 3) := by decide +kernel
theorem dX5_tellMeasure_94 : decode cX5_tellMeasure 94 = .ok (.aload_n 1, 1) := by decide +kernel
theorem dX5_tellMeasure_95 : decode cX5_tellMeasure 95 = .ok (.iload_n 2, 1) := by decide +kernel
theorem dX5_tellMeasure_96 : decode cX5_tellMeasure 96 = .ok (.iconst 2, 1) := by decide +kernel
theorem dX5_tellMeasure_97 : decode cX5_tellMeasure 97 = .ok (.invokestatic 42, 3) := by decide +kernel
theorem dX5_tellMeasure_100 : decode cX5_tellMeasure 100 = .ok (.ifCond .eq 25, 3) := by decide +kernel
theorem dX5_tellMeasure_103 : decode cX5_tellMeasure 103 = .ok (.aload_n 0, 1) := by decide +kernel
theorem dX5_tellMeasure_104 : decode cX5_tellMeasure 104 = .ok (.ldc 50, 2) := by decide +kernel
theorem dX5_tellMeasure_106 : decode cX5_tellMeasure 106 = .ok (.aload_n 1, 1) := by decide +kernel
theorem dX5_tellMeasure_107 : decode cX5_tellMeasure 107 = .ok (.iload_n 2, 1) := by decide +kernel
theorem dX5_tellMeasure_108 : decode cX5_tellMeasure 108 = .ok (.iconst 1, 1) := by decide +kernel
theorem dX5_tellMeasure_109 : decode cX5_tellMeasure 109 = .ok (.invokevirtual 30, 3) := by decide +kernel
theorem dX5_tellMeasure_112 : decode cX5_tellMeasure 112 = .ok (.invokevirtual 24, 3) := by decide +kernel
theorem dX5_tellMeasure_115 : decode cX5_tellMeasure 115 = .ok (.aload_n 0, 1) := by decide +kernel
theorem dX5_tellMeasure_116 : decode cX5_tellMeasure 116 = .ok (.aload_n 1, 1) := by decide +kernel
theorem dX5_tellMeasure_117 : decode cX5_tellMeasure 117 = .ok (.iload_n 2, 1) := by decide +kernel
theorem dX5_tellMeasure_118 : decode cX5_tellMeasure 118 = .ok (.iconst 2, 1) := by decide +kernel
theorem dX5_tellMeasure_119 : decode cX5_tellMeasure 119 = .ok (.invokevirtual 30, 3) := by decide +kernel
theorem dX5_tellMeasure_122 : decode cX5_tellMeasure 122 = .ok (.invokevirtual 52, 3) := by decide +kernel
theorem dX5_tellMeasure_125 : decode cX5_tellMeasure 125 = .ok (.iconst 0, 1) := by decide +kernel
theorem dX5_tellMeasure_126 : decode cX5_tellMeasure 126 = .ok (.istore_n 3, 1) := by decide +kernel
theorem dX5_tellMeasure_127 : decode cX5_tellMeasure 127 = .ok (.iload_n 3, 1) := by decide +kernel
theorem dX5_tellMeasure_128 : decode cX5_tellMeasure 128 = .ok (.iconst 2, 1) := by decide +kernel
theorem dX5_tellMeasure_129 : decode cX5_tellMeasure 129 = .ok (.if_icmp .ge 16, 3) := by decide +kernel
theorem dX5_tellMeasure_132 : decode cX5_tellMeasure 132 = .ok (.aload_n 0, 1) := by decide +kernel
theorem dX5_tellMeasure_133 : decode cX5_tellMeasure 133 = .ok (.aload_n 1, 1) := by decide +kernel
theorem dX5_tellMeasure_134 : decode cX5_tellMeasure 134 = .ok (.iload_n 2, 1) := by decide +kernel
theorem dX5_tellMeasure_135 : decode cX5_tellMeasure 135 = .ok (.iload_n 3, 1) := by decide +kernel
theorem dX5_tellMeasure_136 : decode cX5_tellMeasure 136 = .ok (.invokevirtual 55, 3) := by decide +kernel
theorem dX5_tellMeasure_139 : decode cX5_tellMeasure 139 = .ok (.iinc 3 1, 3) := by decide +kernel
theorem dX5_tellMeasure_142 : decode cX5_tellMeasure 142 = .ok (.goto (-15), 3) := by decide +kernel
theorem dX5_tellMeasure_145 : decode cX5_tellMeasure 145 = .ok (.aload_n 1, 1) := by decide +kernel
theorem dX5_tellMeasure_146 : decode cX5_tellMeasure 146 = .ok (.iload_n 2, 1) := by decide +kernel
theorem dX5_tellMeasure_147 : decode cX5_tellMeasure 147 = .ok (.iconst 5, 1) := by decide +kernel
theorem dX5_tellMeasure_148 : decode cX5_tellMeasure 148 = .ok (.invokevirtual 30, 3) := by decide +kernel
theorem dX5_tellMeasure_151 : decode cX5_tellMeasure 151 = .ok (.ifCond .eq 15, 3) := by decide +kernel
theorem dX5_tellMeasure_154 : decode cX5_tellMeasure 154 = .ok (.aload_n 0, 1) := by decide +kernel
theorem dX5_tellMeasure_155 : decode cX5_tellMeasure 155 = .ok (.ldc 59, 2) := by decide +kernel
theorem dX5_tellMeasure_157 : decode cX5_tellMeasure 157 = .ok (.aload_n 1, 1) := by decide +kernel
theorem dX5_tellMeasure_158 : decode cX5_tellMeasure 158 = .ok (.iload_n 2, 1) := by decide +kernel
theorem dX5_tellMeasure_159 : decode cX5_tellMeasure 159 = .ok (.iconst 5, 1) := by decide +kernel
theorem dX5_tellMeasure_160 : decode cX5_tellMeasure 160 = .ok (.invokevirtual 30, 3) := by decide +kernel
theorem dX5_tellMeasure_163 : decode cX5_tellMeasure 163 = .ok (.invokevirtual 24, 3) := by decide +kernel
theorem dX5_tellMeasure_166 : decode cX5_tellMeasure 166 = .ok (.aload_n 0, 1) := by decide +kernel
theorem dX5_tellMeasure_167 : decode cX5_tellMeasure 167 = .ok (.ldc 61, 2) := by decide +kernel
theorem dX5_tellMeasure_169 : decode cX5_tellMeasure 169 = .ok (.invokevirtual 36, 3) := by decide +kernel
theorem dX5_tellMeasure_172 : decode cX5_tellMeasure 172 = .ok (.return_, 1) := by decide +kernel
theorem dX5_differsFromBefore_0 : decode cX5_differsFromBefore 0 = .ok (.aload_n 0, 1) := by decide +kernel
theorem dX5_differsFromBefore_1 : decode cX5_differsFromBefore 1 = .ok (.iload_n 1, 1) := by decide +kernel
theorem dX5_differsFromBefore_2 : decode cX5_differsFromBefore 2 = .ok (.iload_n 2, 1) := by decide +kernel
theorem dX5_differsFromBefore_3 : decode cX5_differsFromBefore 3 = .ok (.invokevirtual 30, 3) := by decide +kernel
theorem dX5_differsFromBefore_6 : decode cX5_differsFromBefore 6 = .ok (.aload_n 0, 1) := by decide +kernel
theorem dX5_differsFromBefore_7 : decode cX5_differsFromBefore 7 = .ok (.iload_n 1, 1) := by decide +kernel
theorem dX5_differsFromBefore_8 : decode cX5_differsFromBefore 8 = .ok (.iconst 1, 1) := by decide +kernel
theorem dX5_differsFromBefore_9 : decode cX5_differsFromBefore 9 = .ok (.isub, 1) := by decide +kernel
theorem dX5_differsFromBefore_10 : decode cX5_differsFromBefore 10 = .ok (.iload_n 2, 1) := by decide +kernel
theorem dX5_differsFromBefore_11 : decode cX5_differsFromBefore 11 = .ok (.invokevirtual 30, 3) := by decide +kernel
theorem dX5_differsFromBefore_14 : decode cX5_differsFromBefore 14 = .ok (.if_icmp .eq 7, 3) := by decide +kernel
theorem dX5_differsFromBefore_17 : decode cX5_differsFromBefore 17 = .ok (.iconst 1, 1) := by decide +kernel
theorem dX5_differsFromBefore_18 : decode cX5_differsFromBefore 18 = .ok (.goto 4, 3) := by decide +kernel
theorem dX5_differsFromBefore_21 : decode cX5_differsFromBefore 21 = .ok (.iconst 0, 1) := by decide +kernel
theorem dX5_differsFromBefore_22 : decode cX5_differsFromBefore 22 = .ok (.ireturn, 1) := by decide +kernel
theorem dX5_tellKey_0 : decode cX5_tellKey 0 = .ok (.aload_n 0, 1) := by decide +kernel
theorem dX5_tellKey_1 : decode cX5_tellKey 1 = .ok (.ldc 63, 2) := by decide +kernel
theorem dX5_tellKey_3 : decode cX5_tellKey 3 = .ok (.invokevirtual 36, 3) := by decide +kernel
theorem dX5_tellKey_6 : decode cX5_tellKey 6 = .ok (.iload_n 1, 1) := by decide +kernel
theorem dX5_tellKey_7 : decode cX5_tellKey 7 = .ok (.ifCond .ne 12, 3) := by decide +kernel
theorem dX5_tellKey_10 : decode cX5_tellKey 10 = .ok (.aload_n 0, 1) := by decide +kernel
theorem dX5_tellKey_11 : decode cX5_tellKey 11 = .ok (.ldc 65, 2) := by decide +kernel
theorem dX5_tellKey_13 : decode cX5_tellKey 13 = .ok (.invokevirtual 36, 3) := by decide +kernel
theorem dX5_tellKey_16 : decode cX5_tellKey 16 = .ok (.goto 26, 3) := by decide +kernel
theorem dX5_tellKey_19 : decode cX5_tellKey 19 = .ok (.aload_n 0, 1) := by decide +kernel
theorem dX5_tellKey_20 : decode cX5_tellKey 20 = .ok (.iload_n 1, 1) := by decide +kernel
theorem dX5_tellKey_21 : decode cX5_tellKey 21 = .ok (.invokestatic 67, 3) := by decide +kernel
theorem dX5_tellKey_24 : decode cX5_tellKey 24 = .ok (.invokevirtual 52, 3) := by decide +kernel
theorem dX5_tellKey_27 : decode cX5_tellKey 27 = .ok (.aload_n 0, 1) := by decide +kernel
theorem dX5_tellKey_28 : decode cX5_tellKey 28 = .ok (.iload_n 1, 1) := by decide +kernel
theorem dX5_tellKey_29 : decode cX5_tellKey 29 = .ok (.ifCond .le 8, 3) := by decide +kernel
theorem dX5_tellKey_32 : decode cX5_tellKey 32 = .ok (.ldc 73, 2) := by decide +kernel
theorem dX5_tellKey_34 : decode cX5_tellKey 34 = .ok (.goto 5, 3) := by decide +kernel
theorem dX5_tellKey_37 : decode cX5_tellKey 37 = .ok (.ldc 75, 2) := by decide +kernel
theorem dX5_tellKey_39 : decode cX5_tellKey 39 = .ok (.invokevirtual 36, 3) := by decide +kernel
theorem dX5_tellKey_42 : decode cX5_tellKey 42 = .ok (.return_, 1) := by decide +kernel
theorem dX5_tellVoice_0 : decode cX5_tellVoice 0 = .ok (.aload_n 1, 1) := by decide +kernel
theorem dX5_tellVoice_1 : decode cX5_tellVoice 1 = .ok (.iload_n 2, 1) := by decide +kernel
theorem dX5_tellVoice_2 : decode cX5_tellVoice 2 = .ok (.iload_n 3, 1) := by decide +kernel
theorem dX5_tellVoice_3 : decode cX5_tellVoice 3 = .ok (.invokevirtual 77, 3) := by decide +kernel
theorem dX5_tellVoice_6 : decode cX5_tellVoice 6 = .ok (.ifCond .le 12, 3) := by decide +kernel
theorem dX5_tellVoice_9 : decode cX5_tellVoice 9 = .ok (.aload_n 0, 1) := by decide +kernel
theorem dX5_tellVoice_10 : decode cX5_tellVoice 10 = .ok (.ldc 80, 2) := by decide +kernel
theorem dX5_tellVoice_12 : decode cX5_tellVoice 12 = .ok (.iload_n 3, 1) := by decide +kernel
theorem dX5_tellVoice_13 : decode cX5_tellVoice 13 = .ok (.iconst 1, 1) := by decide +kernel
theorem dX5_tellVoice_14 : decode cX5_tellVoice 14 = .ok (.iadd, 1) := by decide +kernel
theorem dX5_tellVoice_15 : decode cX5_tellVoice 15 = .ok (.invokevirtual 24, 3) := by decide +kernel
theorem dX5_tellVoice_18 : decode cX5_tellVoice 18 = .ok (.iconst 0, 1) := by decide +kernel
theorem dX5_tellVoice_19 : decode cX5_tellVoice 19 = .ok (.istore 4, 2) := by decide +kernel
theorem dX5_tellVoice_21 : decode cX5_tellVoice 21 = .ok (.iload 4, 2) := by decide +kernel
theorem dX5_tellVoice_23 : decode cX5_tellVoice 23 = .ok (.aload_n 1, 1) := by decide +kernel
theorem dX5_tellVoice_24 : decode cX5_tellVoice 24 = .ok (.iload_n 2, 1) := by decide +kernel
theorem dX5_tellVoice_25 : decode cX5_tellVoice 25 = .ok (.iload_n 3, 1) := by decide +kernel
theorem dX5_tellVoice_26 : decode cX5_tellVoice 26 = .ok (.invokevirtual 77, 3) := by decide +kernel
theorem dX5_tellVoice_29 : decode cX5_tellVoice 29 = .ok (.if_icmp .ge 21, 3) := by decide +kernel
theorem dX5_tellVoice_32 : decode cX5_tellVoice 32 = .ok (.aload_n 0, 1) := by decide +kernel
theorem dX5_tellVoice_33 : decode cX5_tellVoice 33 = .ok (.aload_n 1, 1) := by decide +kernel
theorem dX5_tellVoice_34 : decode cX5_tellVoice 34 = .ok (.iload_n 2, 1) := by decide +kernel
theorem dX5_tellVoice_35 : decode cX5_tellVoice 35 = .ok (.iload_n 3, 1) := by decide +kernel
theorem dX5_tellVoice_36 : decode cX5_tellVoice 36 = .ok (.iload 4, 2) := by decide +kernel
theorem dX5_tellVoice_38 : decode cX5_tellVoice 38 = .ok (.invokevirtual 82, 3) := by decide +kernel
theorem dX5_tellVoice_41 : decode cX5_tellVoice 41 = .ok (.invokevirtual 86, 3) := by decide +kernel
theorem dX5_tellVoice_44 : decode cX5_tellVoice 44 = .ok (.iinc 4 1, 3) := by decide +kernel
theorem dX5_tellVoice_47 : decode cX5_tellVoice 47 = .ok (.goto (-26), 3) := by decide +kernel
theorem dX5_tellVoice_50 : decode cX5_tellVoice 50 = .ok (.return_, 1) := by decide +kernel
theorem dX5_tellEvent_0 : decode cX5_tellEvent 0 = .ok (.iload_n 1, 1) := by decide +kernel
theorem dX5_tellEvent_1 : decode cX5_tellEvent 1 = .ok (.invokestatic 89, 3) := by decide +kernel
theorem dX5_tellEvent_4 : decode cX5_tellEvent 4 = .ok (.ifCond .eq 47, 3) := by decide +kernel
theorem dX5_tellEvent_7 : decode cX5_tellEvent 7 = .ok (.aload_n 0, 1) := by decide +kernel
theorem dX5_tellEvent_8 : decode cX5_tellEvent 8 = .ok (.invokevirtual 95, 3) := by decide +kernel
theorem dX5_tellEvent_11 : decode cX5_tellEvent 11 = .ok (.aload_n 0, 1) := by decide +kernel
theorem dX5_tellEvent_12 : decode cX5_tellEvent 12 = .ok (.iload_n 1, 1) := by decide +kernel
theorem dX5_tellEvent_13 : decode cX5_tellEvent 13 = .ok (.invokestatic 98, 3) := by decide +kernel
theorem dX5_tellEvent_16 : decode cX5_tellEvent 16 = .ok (.invokestatic 101, 3) := by decide +kernel
theorem dX5_tellEvent_19 : decode cX5_tellEvent 19 = .ok (.invokevirtual 105, 3) := by decide +kernel
theorem dX5_tellEvent_22 : decode cX5_tellEvent 22 = .ok (.iload_n 1, 1) := by decide +kernel
theorem dX5_tellEvent_23 : decode cX5_tellEvent 23 = .ok (.invokestatic 108, 3) := by decide +kernel
theorem dX5_tellEvent_26 : decode cX5_tellEvent 26 = .ok (.ifCond .eq 14, 3) := by decide +kernel
theorem dX5_tellEvent_29 : decode cX5_tellEvent 29 = .ok (.aload_n 0, 1) := by decide +kernel
theorem dX5_tellEvent_30 : decode cX5_tellEvent 30 = .ok (.iload_n 1, 1) := by decide +kernel
theorem dX5_tellEvent_31 : decode cX5_tellEvent 31 = .ok (.invokestatic 108, 3) := by decide +kernel
theorem dX5_tellEvent_34 : decode cX5_tellEvent 34 = .ok (.invokestatic 111, 3) := by decide +kernel
theorem dX5_tellEvent_37 : decode cX5_tellEvent 37 = .ok (.invokevirtual 36, 3) := by decide +kernel
theorem dX5_tellEvent_40 : decode cX5_tellEvent 40 = .ok (.aload_n 0, 1) := by decide +kernel
theorem dX5_tellEvent_41 : decode cX5_tellEvent 41 = .ok (.iload_n 1, 1) := by decide +kernel
theorem dX5_tellEvent_42 : decode cX5_tellEvent 42 = .ok (.invokestatic 115, 3) := by decide +kernel
theorem dX5_tellEvent_45 : decode cX5_tellEvent 45 = .ok (.invokevirtual 52, 3) := by decide +kernel
theorem dX5_tellEvent_48 : decode cX5_tellEvent 48 = .ok (.goto 9, 3) := by decide +kernel
theorem dX5_tellEvent_51 : decode cX5_tellEvent 51 = .ok (.aload_n 0, 1) := by decide +kernel
theorem dX5_tellEvent_52 : decode cX5_tellEvent 52 = .ok (.ldc 118, 2) := by decide +kernel
theorem dX5_tellEvent_54 : decode cX5_tellEvent 54 = .ok (.invokevirtual 36, 3) := by decide +kernel
theorem dX5_tellEvent_57 : decode cX5_tellEvent 57 = .ok (.iload_n 1, 1) := by decide +kernel
theorem dX5_tellEvent_58 : decode cX5_tellEvent 58 = .ok (.invokestatic 120, 3) := by decide +kernel
theorem dX5_tellEvent_61 : decode cX5_tellEvent 61 = .ok (.ifCond .eq 9, 3) := by decide +kernel
theorem dX5_tellEvent_64 : decode cX5_tellEvent 64 = .ok (.aload_n 0, 1) := by decide +kernel
theorem dX5_tellEvent_65 : decode cX5_tellEvent 65 = .ok (.ldc 123, 2) := by decide +kernel
theorem dX5_tellEvent_67 : decode cX5_tellEvent 67 = .ok (.invokevirtual 36, 3) := by decide +kernel
theorem dX5_tellEvent_70 : decode cX5_tellEvent 70 = .ok (.aload_n 0, 1) := by decide +kernel
theorem dX5_tellEvent_71 : decode cX5_tellEvent 71 = .ok (.iload_n 1, 1) := by decide +kernel
theorem dX5_tellEvent_72 : decode cX5_tellEvent 72 = .ok (.invokestatic 125, 3) := by decide +kernel
theorem dX5_tellEvent_75 : decode cX5_tellEvent 75 = .ok (.invokestatic 128, 3) := by decide +kernel
theorem dX5_tellEvent_78 : decode cX5_tellEvent 78 = .ok (.invokevirtual 36, 3) := by decide +kernel
theorem dX5_tellEvent_81 : decode cX5_tellEvent 81 = .ok (.iload_n 1, 1) := by decide +kernel
theorem dX5_tellEvent_82 : decode cX5_tellEvent 82 = .ok (.invokestatic 131, 3) := by decide +kernel
theorem dX5_tellEvent_85 : decode cX5_tellEvent 85 = .ok (.ifCond .eq 9, 3) := by decide +kernel
theorem dX5_tellEvent_88 : decode cX5_tellEvent 88 = .ok (.aload_n 0, 1) := by decide +kernel
theorem dX5_tellEvent_89 : decode cX5_tellEvent 89 = .ok (.ldc 134, 2) := by decide +kernel
theorem dX5_tellEvent_91 : decode cX5_tellEvent 91 = .ok (.invokevirtual 36, 3) := by decide +kernel
theorem dX5_tellEvent_94 : decode cX5_tellEvent 94 = .ok (.return_, 1) := by decide +kernel
theorem dX5_tellNumbered_0 : decode cX5_tellNumbered 0 = .ok (.aload_n 0, 1) := by decide +kernel
theorem dX5_tellNumbered_1 : decode cX5_tellNumbered 1 = .ok (.aload_n 1, 1) := by decide +kernel
theorem dX5_tellNumbered_2 : decode cX5_tellNumbered 2 = .ok (.invokevirtual 36, 3) := by decide +kernel
theorem dX5_tellNumbered_5 : decode cX5_tellNumbered 5 = .ok (.aload_n 0, 1) := by decide +kernel
theorem dX5_tellNumbered_6 : decode cX5_tellNumbered 6 = .ok (.iload_n 2, 1) := by decide +kernel
theorem dX5_tellNumbered_7 : decode cX5_tellNumbered 7 = .ok (.invokevirtual 52, 3) := by decide +kernel
theorem dX5_tellNumbered_10 : decode cX5_tellNumbered 10 = .ok (.return_, 1) := by decide +kernel
theorem dX5_tellWord_0 : decode cX5_tellWord 0 = .ok (.aload_n 0, 1) := by decide +kernel
theorem dX5_tellWord_1 : decode cX5_tellWord 1 = .ok (.invokevirtual 95, 3) := by decide +kernel
theorem dX5_tellWord_4 : decode cX5_tellWord 4 = .ok (.iconst 0, 1) := by decide +kernel
theorem dX5_tellWord_5 : decode cX5_tellWord 5 = .ok (.istore_n 2, 1) := by decide +kernel
theorem dX5_tellWord_6 : decode cX5_tellWord 6 = .ok (.iload_n 2, 1) := by decide +kernel
theorem dX5_tellWord_7 : decode cX5_tellWord 7 = .ok (.aload_n 1, 1) := by decide +kernel
theorem dX5_tellWord_8 : decode cX5_tellWord 8 = .ok (.invokevirtual 136, 3) := by decide +kernel
theorem dX5_tellWord_11 : decode cX5_tellWord 11 = .ok (.if_icmp .ge 18, 3) := by decide +kernel
theorem dX5_tellWord_14 : decode cX5_tellWord 14 = .ok (.aload_n 0, 1) := by decide +kernel
theorem dX5_tellWord_15 : decode cX5_tellWord 15 = .ok (.aload_n 1, 1) := by decide +kernel
theorem dX5_tellWord_16 : decode cX5_tellWord 16 = .ok (.iload_n 2, 1) := by decide +kernel
theorem dX5_tellWord_17 : decode cX5_tellWord 17 = .ok (.invokevirtual 141, 3) := by decide +kernel
theorem dX5_tellWord_20 : decode cX5_tellWord 20 = .ok (.invokevirtual 105, 3) := by decide +kernel
theorem dX5_tellWord_23 : decode cX5_tellWord 23 = .ok (.iinc 2 1, 3) := by decide +kernel
theorem dX5_tellWord_26 : decode cX5_tellWord 26 = .ok (.goto (-20), 3) := by decide +kernel
theorem dX5_tellWord_29 : decode cX5_tellWord 29 = .ok (.return_, 1) := by decide +kernel
theorem dX5_tellNumber_0 : decode cX5_tellNumber 0 = .ok (.aload_n 0, 1) := by decide +kernel
theorem dX5_tellNumber_1 : decode cX5_tellNumber 1 = .ok (.invokevirtual 95, 3) := by decide +kernel
theorem dX5_tellNumber_4 : decode cX5_tellNumber 4 = .ok (.iload_n 1, 1) := by decide +kernel
theorem dX5_tellNumber_5 : decode cX5_tellNumber 5 = .ok (.bipush 10, 2) := by decide +kernel
theorem dX5_tellNumber_7 : decode cX5_tellNumber 7 = .ok (.if_icmp .lt 14, 3) := by decide +kernel
theorem dX5_tellNumber_10 : decode cX5_tellNumber 10 = .ok (.aload_n 0, 1) := by decide +kernel
theorem dX5_tellNumber_11 : decode cX5_tellNumber 11 = .ok (.bipush 48, 2) := by decide +kernel
theorem dX5_tellNumber_13 : decode cX5_tellNumber 13 = .ok (.iload_n 1, 1) := by decide +kernel
theorem dX5_tellNumber_14 : decode cX5_tellNumber 14 = .ok (.bipush 10, 2) := by decide +kernel
theorem dX5_tellNumber_16 : decode cX5_tellNumber 16 = .ok (.idiv, 1) := by decide +kernel
theorem dX5_tellNumber_17 : decode cX5_tellNumber 17 = .ok (.iadd, 1) := by decide +kernel
theorem dX5_tellNumber_18 : decode cX5_tellNumber 18 = .ok (.invokevirtual 105, 3) := by decide +kernel
theorem dX5_tellNumber_21 : decode cX5_tellNumber 21 = .ok (.aload_n 0, 1) := by decide +kernel
theorem dX5_tellNumber_22 : decode cX5_tellNumber 22 = .ok (.bipush 48, 2) := by decide +kernel
theorem dX5_tellNumber_24 : decode cX5_tellNumber 24 = .ok (.iload_n 1, 1) := by decide +kernel
theorem dX5_tellNumber_25 : decode cX5_tellNumber 25 = .ok (.bipush 10, 2) := by decide +kernel
theorem dX5_tellNumber_27 : decode cX5_tellNumber 27 = .ok (.irem, 1) := by decide +kernel
theorem dX5_tellNumber_28 : decode cX5_tellNumber 28 = .ok (.iadd, 1) := by decide +kernel
theorem dX5_tellNumber_29 : decode cX5_tellNumber 29 = .ok (.invokevirtual 105, 3) := by decide +kernel
theorem dX5_tellNumber_32 : decode cX5_tellNumber 32 = .ok (.return_, 1) := by decide +kernel
theorem dX5_beginWord_0 : decode cX5_beginWord 0 = .ok (.aload_n 0, 1) := by decide +kernel
theorem dX5_beginWord_1 : decode cX5_beginWord 1 = .ok (.getfield 17, 3) := by decide +kernel
theorem dX5_beginWord_4 : decode cX5_beginWord 4 = .ok (.ifCond .le 9, 3) := by decide +kernel
theorem dX5_beginWord_7 : decode cX5_beginWord 7 = .ok (.aload_n 0, 1) := by decide +kernel
theorem dX5_beginWord_8 : decode cX5_beginWord 8 = .ok (.bipush 32, 2) := by decide +kernel
theorem dX5_beginWord_10 : decode cX5_beginWord 10 = .ok (.invokevirtual 105, 3) := by decide +kernel
theorem dX5_beginWord_13 : decode cX5_beginWord 13 = .ok (.aload_n 0, 1) := by decide +kernel
theorem dX5_beginWord_14 : decode cX5_beginWord 14 = .ok (.dup, 1) := by decide +kernel
theorem dX5_beginWord_15 : decode cX5_beginWord 15 = .ok (.getfield 17, 3) := by decide +kernel
theorem dX5_beginWord_18 : decode cX5_beginWord 18 = .ok (.iconst 1, 1) := by decide +kernel
theorem dX5_beginWord_19 : decode cX5_beginWord 19 = .ok (.iadd, 1) := by decide +kernel
theorem dX5_beginWord_20 : decode cX5_beginWord 20 = .ok (.putfield 17, 3) := by decide +kernel
theorem dX5_beginWord_23 : decode cX5_beginWord 23 = .ok (.return_, 1) := by decide +kernel
theorem dX5_put_0 : decode cX5_put 0 = .ok (.aload_n 0, 1) := by decide +kernel
theorem dX5_put_1 : decode cX5_put 1 = .ok (.getfield 13, 3) := by decide +kernel
theorem dX5_put_4 : decode cX5_put 4 = .ok (.sipush 1702, 3) := by decide +kernel
theorem dX5_put_7 : decode cX5_put 7 = .ok (.if_icmp .ge 24, 3) := by decide +kernel
theorem dX5_put_10 : decode cX5_put 10 = .ok (.aload_n 0, 1) := by decide +kernel
theorem dX5_put_11 : decode cX5_put 11 = .ok (.getfield 9, 3) := by decide +kernel
theorem dX5_put_14 : decode cX5_put 14 = .ok (.aload_n 0, 1) := by decide +kernel
theorem dX5_put_15 : decode cX5_put 15 = .ok (.getfield 13, 3) := by decide +kernel
theorem dX5_put_18 : decode cX5_put 18 = .ok (.iload_n 1, 1) := by decide +kernel
theorem dX5_put_19 : decode cX5_put 19 = .ok (.i2b, 1) := by decide +kernel
theorem dX5_put_20 : decode cX5_put 20 = .ok (.bastore, 1) := by decide +kernel
theorem dX5_put_21 : decode cX5_put 21 = .ok (.aload_n 0, 1) := by decide +kernel
theorem dX5_put_22 : decode cX5_put 22 = .ok (.dup, 1) := by decide +kernel
theorem dX5_put_23 : decode cX5_put 23 = .ok (.getfield 13, 3) := by decide +kernel
theorem dX5_put_26 : decode cX5_put 26 = .ok (.iconst 1, 1) := by decide +kernel
theorem dX5_put_27 : decode cX5_put 27 = .ok (.iadd, 1) := by decide +kernel
theorem dX5_put_28 : decode cX5_put 28 = .ok (.putfield 13, 3) := by decide +kernel
theorem dX5_put_31 : decode cX5_put 31 = .ok (.return_, 1) := by decide +kernel
theorem dX6_init_0 : decode cX6_init 0 = .ok (.aload_n 0, 1) := by decide +kernel
theorem dX6_init_1 : decode cX6_init 1 = .ok (.invokespecial 3, 3) := by decide +kernel
theorem dX6_init_4 : decode cX6_init 4 = .ok (.aload_n 0, 1) := by decide +kernel
theorem dX6_init_5 : decode cX6_init 5 = .ok (.sipush 768, 3) := by decide +kernel
theorem dX6_init_8 : decode cX6_init 8 = .ok (.newarray .int, 2) := by decide +kernel
theorem dX6_init_10 : decode cX6_init 10 = .ok (.putfield 11, 3) := by decide +kernel
theorem dX6_init_13 : decode cX6_init 13 = .ok (.aload_n 0, 1) := by decide +kernel
theorem dX6_init_14 : decode cX6_init 14 = .ok (.sipush 768, 3) := by decide +kernel
theorem dX6_init_17 : decode cX6_init 17 = .ok (.newarray .int, 2) := by decide +kernel
theorem dX6_init_19 : decode cX6_init 19 = .ok (.putfield 15, 3) := by decide +kernel
theorem dX6_init_22 : decode cX6_init 22 = .ok (.aload_n 0, 1) := by decide +kernel
theorem dX6_init_23 : decode cX6_init 23 = .ok (.aload_n 1, 1) := by decide +kernel
theorem dX6_init_24 : decode cX6_init 24 = .ok (.putfield 18, 3) := by decide +kernel
theorem dX6_init_27 : decode cX6_init 27 = .ok (.return_, 1) := by decide +kernel
theorem dX6_slot_0 : decode cX6_slot 0 = .ok (.iload_n 0, 1) := by decide +kernel
theorem dX6_slot_1 : decode cX6_slot 1 = .ok (.ifCond .lt 32, 3) := by decide +kernel
theorem dX6_slot_4 : decode cX6_slot 4 = .ok (.iload_n 0, 1) := by decide +kernel
theorem dX6_slot_5 : decode cX6_slot 5 = .ok (.bipush 16, 2) := by decide +kernel
theorem dX6_slot_7 : decode cX6_slot 7 = .ok (.if_icmp .ge 26, 3) := by decide +kernel
theorem dX6_slot_10 : decode cX6_slot 10 = .ok (.iload_n 1, 1) := by decide +kernel
theorem dX6_slot_11 : decode cX6_slot 11 = .ok (.ifCond .lt 22, 3) := by decide +kernel
theorem dX6_slot_14 : decode cX6_slot 14 = .ok (.iload_n 1, 1) := by decide +kernel
theorem dX6_slot_15 : decode cX6_slot 15 = .ok (.iconst 2, 1) := by decide +kernel
theorem dX6_slot_16 : decode cX6_slot 16 = .ok (.if_icmp .ge 17, 3) := by decide +kernel
theorem dX6_slot_19 : decode cX6_slot 19 = .ok (.iload_n 2, 1) := by decide +kernel
theorem dX6_slot_20 : decode cX6_slot 20 = .ok (.ifCond .lt 13, 3) := by decide +kernel
theorem dX6_slot_23 : decode cX6_slot 23 = .ok (.iload_n 2, 1) := by decide +kernel
theorem dX6_slot_24 : decode cX6_slot 24 = .ok (.bipush 24, 2) := by decide +kernel
theorem dX6_slot_26 : decode cX6_slot 26 = .ok (.if_icmp .ge 7, 3) := by decide +kernel
theorem dX6_slot_29 : decode cX6_slot 29 = .ok (.iconst 1, 1) := by decide +kernel
theorem dX6_slot_30 : decode cX6_slot 30 = .ok (.goto 4, 3) := by decide +kernel
theorem dX6_slot_33 : decode cX6_slot 33 = .ok (.iconst 0, 1) := by decide +kernel
theorem dX6_slot_34 : decode cX6_slot 34 = .ok (.istore_n 3, 1) := by decide +kernel
theorem dX6_slot_35 : decode cX6_slot 35 = .ok (.iload_n 3, 1) := by decide +kernel
theorem dX6_slot_36 : decode cX6_slot 36 = .ok (.ifCond .eq 16, 3) := by decide +kernel
theorem dX6_slot_39 : decode cX6_slot 39 = .ok (.iload_n 0, 1) := by decide +kernel
theorem dX6_slot_40 : decode cX6_slot 40 = .ok (.iconst 2, 1) := by decide +kernel
theorem dX6_slot_41 : decode cX6_slot 41 = .ok (.imul, 1) := by decide +kernel
theorem dX6_slot_42 : decode cX6_slot 42 = .ok (.iload_n 1, 1) := by decide +kernel
theorem dX6_slot_43 : decode cX6_slot 43 = .ok (.iadd, 1) := by decide +kernel
theorem dX6_slot_44 : decode cX6_slot 44 = .ok (.bipush 24, 2) := by decide +kernel
theorem dX6_slot_46 : decode cX6_slot 46 = .ok (.imul, 1) := by decide +kernel
theorem dX6_slot_47 : decode cX6_slot 47 = .ok (.iload_n 2, 1) := by decide +kernel
theorem dX6_slot_48 : decode cX6_slot 48 = .ok (.iadd, 1) := by decide +kernel
theorem dX6_slot_49 : decode cX6_slot 49 = .ok (.goto 4, 3) := by decide +kernel
theorem dX6_slot_52 : decode cX6_slot 52 = .ok (.iconst (-1), 1) := by decide +kernel
theorem dX6_slot_53 : decode cX6_slot 53 = .ok (.ireturn, 1) := by decide +kernel
theorem dX6_shift_0 : decode cX6_shift 0 = .ok (.iload_n 1, 1) := by decide +kernel
theorem dX6_shift_1 : decode cX6_shift 1 = .ok (.iload_n 2, 1) := by decide +kernel
theorem dX6_shift_2 : decode cX6_shift 2 = .ok (.iload_n 3, 1) := by decide +kernel
theorem dX6_shift_3 : decode cX6_shift 3 = .ok (.invokestatic 22, 3) := by decide +kernel
theorem dX6_shift_6 : decode cX6_shift 6 = .ok (.istore 4, 2) := by decide +kernel
theorem dX6_shift_8 : decode cX6_shift 8 = .ok (.iload 4, 2) := by decide +kernel
theorem dX6_shift_10 : decode cX6_shift 10 = .ok (.ifCond .lt 13, 3) := by decide +kernel
theorem dX6_shift_13 : decode cX6_shift 13 = .ok (.aload_n 0, 1) := by decide +kernel
theorem dX6_shift_14 : decode cX6_shift 14 = .ok (.getfield 11, 3) := by decide +kernel
theorem dX6_shift_17 : decode cX6_shift 17 = .ok (.iload 4, 2) := by decide +kernel
theorem dX6_shift_19 : decode cX6_shift 19 = .ok (.iaload, 1) := by decide +kernel
theorem dX6_shift_20 : decode cX6_shift 20 = .ok (.goto 4, 3) := by decide +kernel
theorem dX6_shift_23 : decode cX6_shift 23 = .ok (.iconst 0, 1) := by decide +kernel
theorem dX6_shift_24 : decode cX6_shift 24 = .ok (.ireturn, 1) := by decide +kernel
theorem dX6_held_0 : decode cX6_held 0 = .ok (.iload_n 1, 1) := by decide +kernel
theorem dX6_held_1 : decode cX6_held 1 = .ok (.iload_n 2, 1) := by decide +kernel
theorem dX6_held_2 : decode cX6_held 2 = .ok (.iload_n 3, 1) := by decide +kernel
theorem dX6_held_3 : decode cX6_held 3 = .ok (.invokestatic 22, 3) := by decide +kernel
theorem dX6_held_6 : decode cX6_held 6 = .ok (.istore 4, 2) := by decide +kernel
theorem dX6_held_8 : decode cX6_held 8 = .ok (.iload 4, 2) := by decide +kernel
theorem dX6_held_10 : decode cX6_held 10 = .ok (.ifCond .lt 13, 3) := by decide +kernel
theorem dX6_held_13 : decode cX6_held 13 = .ok (.aload_n 0, 1) := by decide +kernel
theorem dX6_held_14 : decode cX6_held 14 = .ok (.getfield 15, 3) := by decide +kernel
theorem dX6_held_17 : decode cX6_held 17 = .ok (.iload 4, 2) := by decide +kernel
theorem dX6_held_19 : decode cX6_held 19 = .ok (.iaload, 1) := by decide +kernel
theorem dX6_held_20 : decode cX6_held 20 = .ok (.goto 4, 3) := by decide +kernel
theorem dX6_held_23 : decode cX6_held 23 = .ok (.iconst 0, 1) := by decide +kernel
theorem dX6_held_24 : decode cX6_held 24 = .ok (.ireturn, 1) := by decide +kernel
theorem dX6_isBrokenTie_0 : decode cX6_isBrokenTie 0 = .ok (.aload_n 0, 1) := by decide +kernel
theorem dX6_isBrokenTie_1 : decode cX6_isBrokenTie 1 = .ok (.getfield 18, 3) := by decide +kernel
theorem dX6_isBrokenTie_4 : decode cX6_isBrokenTie 4 = .ok (.iload_n 1, 1) := by decide +kernel
theorem dX6_isBrokenTie_5 : decode cX6_isBrokenTie 5 = .ok (.iload_n 2, 1) := by decide +kernel
theorem dX6_isBrokenTie_6 : decode cX6_isBrokenTie 6 = .ok (.iload_n 3, 1) := by decide +kernel
theorem dX6_isBrokenTie_7 : decode cX6_isBrokenTie 7 = .ok (.invokevirtual 26, 3) := by decide +kernel
theorem dX6_isBrokenTie_10 : decode cX6_isBrokenTie 10 = .ok (.istore 4, 2) := by decide +kernel
theorem dX6_isBrokenTie_12 : decode cX6_isBrokenTie 12 = .ok (.iload 4, 2) := by decide +kernel
theorem dX6_isBrokenTie_14 : decode cX6_isBrokenTie 14 = .ok (.invokestatic 29, 3) := by decide +kernel
theorem dX6_isBrokenTie_17 : decode cX6_isBrokenTie 17 = .ok (.ifCond .eq 22, 3) := by decide +kernel
theorem dX6_isBrokenTie_20 : decode cX6_isBrokenTie 20 = .ok (.aload_n 0, 1) := by decide +kernel
theorem dX6_isBrokenTie_21 : decode cX6_isBrokenTie 21 = .ok (.iload_n 1, 1) := by decide +kernel
theorem dX6_isBrokenTie_22 : decode cX6_isBrokenTie 22 = .ok (.iload_n 2, 1) := by decide +kernel
theorem dX6_isBrokenTie_23 : decode cX6_isBrokenTie 23 = .ok (.iload_n 3, 1) := by decide +kernel
theorem dX6_isBrokenTie_24 : decode cX6_isBrokenTie 24 = .ok (.invokevirtual 35, 3) := by decide +kernel
theorem dX6_isBrokenTie_27 : decode cX6_isBrokenTie 27 = .ok (.iload 4, 2) := by decide +kernel
theorem dX6_isBrokenTie_29 : decode cX6_isBrokenTie 29 = .ok (.invokestatic 38, 3) := by decide +kernel
theorem dX6_isBrokenTie_32 : decode cX6_isBrokenTie 32 = .ok (.if_icmp .ne 7, 3) := by decide +kernel
theorem dX6_isBrokenTie_35 : decode cX6_isBrokenTie 35 = .ok (.iconst 1, 1) := by decide +kernel
theorem dX6_isBrokenTie_36 : decode cX6_isBrokenTie 36 = .ok (.goto 4, 3) := by decide +kernel
theorem dX6_isBrokenTie_39 : decode cX6_isBrokenTie 39 = .ok (.iconst 0, 1) := by decide +kernel
theorem dX6_isBrokenTie_40 : decode cX6_isBrokenTie 40 = .ok (.ireturn, 1) := by decide +kernel
theorem dX6_sounding_0 : decode cX6_sounding 0 = .ok (.aload_n 0, 1) := by decide +kernel
theorem dX6_sounding_1 : decode cX6_sounding 1 = .ok (.getfield 18, 3) := by decide +kernel
theorem dX6_sounding_4 : decode cX6_sounding 4 = .ok (.iload_n 1, 1) := by decide +kernel
theorem dX6_sounding_5 : decode cX6_sounding 5 = .ok (.iload_n 2, 1) := by decide +kernel
theorem dX6_sounding_6 : decode cX6_sounding 6 = .ok (.iload_n 3, 1) := by decide +kernel
theorem dX6_sounding_7 : decode cX6_sounding 7 = .ok (.invokevirtual 26, 3) := by decide +kernel
theorem dX6_sounding_10 : decode cX6_sounding 10 = .ok (.istore 4, 2) := by decide +kernel
theorem dX6_sounding_12 : decode cX6_sounding 12 = .ok (.iload 4, 2) := by decide +kernel
theorem dX6_sounding_14 : decode cX6_sounding 14 = .ok (.invokestatic 42, 3) := by decide +kernel
theorem dX6_sounding_17 : decode cX6_sounding 17 = .ok (.istore 5, 2) := by decide +kernel
theorem dX6_sounding_19 : decode cX6_sounding 19 = .ok (.iload 5, 2) := by decide +kernel
theorem dX6_sounding_21 : decode cX6_sounding 21 = .ok (.ifCond .lt 21, 3) := by decide +kernel
theorem dX6_sounding_24 : decode cX6_sounding 24 = .ok (.iload 5, 2) := by decide +kernel
theorem dX6_sounding_26 : decode cX6_sounding 26 = .ok (.getstatic 45, 3) := by decide +kernel
theorem dX6_sounding_29 : decode cX6_sounding 29 = .ok (.arraylength, 1) := by decide +kernel
theorem dX6_sounding_30 : decode cX6_sounding 30 = .ok (.if_icmp .ge 12, 3) := by decide +kernel
theorem dX6_sounding_33 : decode cX6_sounding 33 = .ok (.getstatic 45, 3) := by decide +kernel
theorem dX6_sounding_36 : decode cX6_sounding 36 = .ok (.iload 5, 2) := by decide +kernel
theorem dX6_sounding_38 : decode cX6_sounding 38 = .ok (.iaload, 1) := by decide +kernel
theorem dX6_sounding_39 : decode cX6_sounding 39 = .ok (.goto 4, 3) := by decide +kernel
theorem dX6_sounding_42 : decode cX6_sounding 42 = .ok (.iconst 0, 1) := by decide +kernel
theorem dX6_sounding_43 : decode cX6_sounding 43 = .ok (.istore 6, 2) := by decide +kernel
theorem dX6_sounding_45 : decode cX6_sounding 45 = .ok (.bipush 12, 2) := by decide +kernel
theorem dX6_sounding_47 : decode cX6_sounding 47 = .ok (.iload 4, 2) := by decide +kernel
theorem dX6_sounding_49 : decode cX6_sounding 49 = .ok (.invokestatic 48, 3) := by decide +kernel
theorem dX6_sounding_52 : decode cX6_sounding 52 = .ok (.imul, 1) := by decide +kernel
theorem dX6_sounding_53 : decode cX6_sounding 53 = .ok (.iload 6, 2) := by decide +kernel
theorem dX6_sounding_55 : decode cX6_sounding 55 = .ok (.iadd, 1) := by decide +kernel
theorem dX6_sounding_56 : decode cX6_sounding 56 = .ok (.aload_n 0, 1) := by decide +kernel
theorem dX6_sounding_57 : decode cX6_sounding 57 = .ok (.iload_n 1, 1) := by decide +kernel
theorem dX6_sounding_58 : decode cX6_sounding 58 = .ok (.iload_n 2, 1) := by decide +kernel
theorem dX6_sounding_59 : decode cX6_sounding 59 = .ok (.iload_n 3, 1) := by decide +kernel
theorem dX6_sounding_60 : decode cX6_sounding 60 = .ok (.invokevirtual 51, 3) := by decide +kernel
theorem dX6_sounding_63 : decode cX6_sounding 63 = .ok (.iadd, 1) := by decide +kernel
theorem dX6_sounding_64 : decode cX6_sounding 64 = .ok (.ireturn, 1) := by decide +kernel
theorem dX6_findShifts_0 : decode cX6_findShifts 0 = .ok (.iconst 0, 1) := by decide +kernel
theorem dX6_findShifts_1 : decode cX6_findShifts 1 = .ok (.istore_n 1, 1) := by decide +kernel
theorem dX6_findShifts_2 : decode cX6_findShifts 2 = .ok (.iload_n 1, 1) := by decide +kernel
theorem dX6_findShifts_3 : decode cX6_findShifts 3 = .ok (.aload_n 0, 1) := by decide +kernel
theorem dX6_findShifts_4 : decode cX6_findShifts 4 = .ok (.getfield 18, 3) := by decide +kernel
theorem dX6_findShifts_7 : decode cX6_findShifts 7 = .ok (.invokevirtual 54, 3) := by decide +kernel
theorem dX6_findShifts_10 : decode cX6_findShifts 10 = .ok (.if_icmp .ge 93, 3) := by decide +kernel
theorem dX6_findShifts_13 : decode cX6_findShifts 13 = .ok (.aload_n 0, 1) := by decide +kernel
theorem dX6_findShifts_14 : decode cX6_findShifts 14 = .ok (.getfield 18, 3) := by decide +kernel
theorem dX6_findShifts_17 : decode cX6_findShifts 17 = .ok (.iload_n 1, 1) := by decide +kernel
theorem dX6_findShifts_18 : decode cX6_findShifts 18 = .ok (.iconst 0, 1) := by decide +kernel
theorem dX6_findShifts_19 : decode cX6_findShifts 19 = .ok (.invokevirtual 58, 3) := by decide +kernel
theorem dX6_findShifts_22 : decode cX6_findShifts 22 = .ok (.istore_n 2, 1) := by decide +kernel
theorem dX6_findShifts_23 : decode cX6_findShifts 23 = .ok (.iconst 0, 1) := by decide +kernel
theorem dX6_findShifts_24 : decode cX6_findShifts 24 = .ok (.istore_n 3, 1) := by decide +kernel
theorem dX6_findShifts_25 : decode cX6_findShifts 25 = .ok (.iload_n 3, 1) := by decide +kernel
theorem dX6_findShifts_26 : decode cX6_findShifts 26 = .ok (.iconst 2, 1) := by decide +kernel
theorem dX6_findShifts_27 : decode cX6_findShifts 27 = .ok (.if_icmp .ge 70, 3) := by decide +kernel
theorem dX6_findShifts_30 : decode cX6_findShifts 30 = .ok (.aload_n 0, 1) := by decide +kernel
theorem dX6_findShifts_31 : decode cX6_findShifts 31 = .ok (.iload_n 1, 1) := by decide +kernel
theorem dX6_findShifts_32 : decode cX6_findShifts 32 = .ok (.iload_n 3, 1) := by decide +kernel
theorem dX6_findShifts_33 : decode cX6_findShifts 33 = .ok (.iconst 0, 1) := by decide +kernel
theorem dX6_findShifts_34 : decode cX6_findShifts 34 = .ok (.invokevirtual 62, 3) := by decide +kernel
theorem dX6_findShifts_37 : decode cX6_findShifts 37 = .ok (.istore 4, 2) := by decide +kernel
theorem dX6_findShifts_39 : decode cX6_findShifts 39 = .ok (.iconst 0, 1) := by decide +kernel
theorem dX6_findShifts_40 : decode cX6_findShifts 40 = .ok (.istore 5, 2) := by decide +kernel
theorem dX6_findShifts_42 : decode cX6_findShifts 42 = .ok (.iload 5, 2) := by decide +kernel
theorem dX6_findShifts_44 : decode cX6_findShifts 44 = .ok (.aload_n 0, 1) := by decide +kernel
theorem dX6_findShifts_45 : decode cX6_findShifts 45 = .ok (.getfield 18, 3) := by decide +kernel
theorem dX6_findShifts_48 : decode cX6_findShifts 48 = .ok (.iload_n 1, 1) := by decide +kernel
theorem dX6_findShifts_49 : decode cX6_findShifts 49 = .ok (.iload_n 3, 1) := by decide +kernel
theorem dX6_findShifts_50 : decode cX6_findShifts 50 = .ok (.invokevirtual 65, 3) := by decide +kernel
theorem dX6_findShifts_53 : decode cX6_findShifts 53 = .ok (.if_icmp .ge 38, 3) := by decide +kernel
theorem dX6_findShifts_56 : decode cX6_findShifts 56 = .ok (.aload_n 0, 1) := by decide +kernel
theorem dX6_findShifts_57 : decode cX6_findShifts 57 = .ok (.iload_n 1, 1) := by decide +kernel
theorem dX6_findShifts_58 : decode cX6_findShifts 58 = .ok (.iload_n 3, 1) := by decide +kernel
theorem dX6_findShifts_59 : decode cX6_findShifts 59 = .ok (.iload 5, 2) := by decide +kernel
theorem dX6_findShifts_61 : decode cX6_findShifts 61 = .ok (.iload_n 2, 1) := by decide +kernel
theorem dX6_findShifts_62 : decode cX6_findShifts 62 = .ok (.iload 4, 2) := by decide +kernel
theorem dX6_findShifts_64 : decode cX6_findShifts 64 = .ok (.invokevirtual 68, 3) := by decide +kernel
theorem dX6_findShifts_67 : decode cX6_findShifts 67 = .ok (.istore 4, 2) := by decide +kernel
theorem dX6_findShifts_69 : decode cX6_findShifts 69 = .ok (.aload_n 0, 1) := by decide +kernel
theorem dX6_findShifts_70 : decode cX6_findShifts 70 = .ok (.getfield 11, 3) := by decide +kernel
theorem dX6_findShifts_73 : decode cX6_findShifts 73 = .ok (.iload_n 1, 1) := by decide +kernel
theorem dX6_findShifts_74 : decode cX6_findShifts 74 = .ok (.iload_n 3, 1) := by decide +kernel
theorem dX6_findShifts_75 : decode cX6_findShifts 75 = .ok (.iload 5, 2) := by decide +kernel
theorem dX6_findShifts_77 : decode cX6_findShifts 77 = .ok (.invokestatic 22, 3) := by decide +kernel
theorem dX6_findShifts_80 : decode cX6_findShifts 80 = .ok (.iload 4, 2) := by decide +kernel
theorem dX6_findShifts_82 : decode cX6_findShifts 82 = .ok (.invokestatic 72, 3) := by decide +kernel
theorem dX6_findShifts_85 : decode cX6_findShifts 85 = .ok (.iinc 5 1, 3) := by decide +kernel
theorem dX6_findShifts_88 : decode cX6_findShifts 88 = .ok (.goto (-46), 3) := by decide +kernel
theorem dX6_findShifts_91 : decode cX6_findShifts 91 = .ok (.iinc 3 1, 3) := by decide +kernel
theorem dX6_findShifts_94 : decode cX6_findShifts 94 = .ok (.goto (-69), 3) := by decide +kernel
theorem dX6_findShifts_97 : decode cX6_findShifts 97 = .ok (.iinc 1 1, 3) := by decide +kernel
theorem dX6_findShifts_100 : decode cX6_findShifts 100 = .ok (.goto (-98), 3) := by decide +kernel
theorem dX6_findShifts_103 : decode cX6_findShifts 103 = .ok (.return_, 1) := by decide +kernel
theorem dX6_findHeldTicks_0 : decode cX6_findHeldTicks 0 = .ok (.aload_n 0, 1) := by decide +kernel
theorem dX6_findHeldTicks_1 : decode cX6_findHeldTicks 1 = .ok (.getfield 18, 3) := by decide +kernel
theorem dX6_findHeldTicks_4 : decode cX6_findHeldTicks 4 = .ok (.invokevirtual 54, 3) := by decide +kernel
theorem dX6_findHeldTicks_7 : decode cX6_findHeldTicks 7 = .ok (.iconst 1, 1) := by decide +kernel
theorem dX6_findHeldTicks_8 : decode cX6_findHeldTicks 8 = .ok (.isub, 1) := by decide +kernel
theorem dX6_findHeldTicks_9 : decode cX6_findHeldTicks 9 = .ok (.istore_n 1, 1) := by decide +kernel
theorem dX6_findHeldTicks_10 : decode cX6_findHeldTicks 10 = .ok (.iload_n 1, 1) := by decide +kernel
theorem dX6_findHeldTicks_11 : decode cX6_findHeldTicks 11 = .ok (.ifCond .lt 111, 3) := by decide +kernel
theorem dX6_findHeldTicks_14 : decode cX6_findHeldTicks 14 = .ok (.iconst 0, 1) := by decide +kernel
theorem dX6_findHeldTicks_15 : decode cX6_findHeldTicks 15 = .ok (.istore_n 2, 1) := by decide +kernel
theorem dX6_findHeldTicks_16 : decode cX6_findHeldTicks 16 = .ok (.iload_n 2, 1) := by decide +kernel
theorem dX6_findHeldTicks_17 : decode cX6_findHeldTicks 17 = .ok (.iconst 2, 1) := by decide +kernel
theorem dX6_findHeldTicks_18 : decode cX6_findHeldTicks 18 = .ok (.if_icmp .ge 98, 3) := by decide +kernel
theorem dX6_findHeldTicks_21 : decode cX6_findHeldTicks 21 = .ok (.aload_n 0, 1) := by decide +kernel
theorem dX6_findHeldTicks_22 : decode cX6_findHeldTicks 22 = .ok (.iload_n 1, 1) := by decide +kernel
theorem dX6_findHeldTicks_23 : decode cX6_findHeldTicks 23 = .ok (.iconst 1, 1) := by decide +kernel
theorem dX6_findHeldTicks_24 : decode cX6_findHeldTicks 24 = .ok (.iadd, 1) := by decide +kernel
theorem dX6_findHeldTicks_25 : decode cX6_findHeldTicks 25 = .ok (.iload_n 2, 1) := by decide +kernel
theorem dX6_findHeldTicks_26 : decode cX6_findHeldTicks 26 = .ok (.iconst 0, 1) := by decide +kernel
theorem dX6_findHeldTicks_27 : decode cX6_findHeldTicks 27 = .ok (.invokevirtual 35, 3) := by decide +kernel
theorem dX6_findHeldTicks_30 : decode cX6_findHeldTicks 30 = .ok (.istore_n 3, 1) := by decide +kernel
theorem dX6_findHeldTicks_31 : decode cX6_findHeldTicks 31 = .ok (.aload_n 0, 1) := by decide +kernel
theorem dX6_findHeldTicks_32 : decode cX6_findHeldTicks 32 = .ok (.getfield 18, 3) := by decide +kernel
theorem dX6_findHeldTicks_35 : decode cX6_findHeldTicks 35 = .ok (.iload_n 1, 1) := by decide +kernel
theorem dX6_findHeldTicks_36 : decode cX6_findHeldTicks 36 = .ok (.iload_n 2, 1) := by decide +kernel
theorem dX6_findHeldTicks_37 : decode cX6_findHeldTicks 37 = .ok (.invokevirtual 65, 3) := by decide +kernel
theorem dX6_findHeldTicks_40 : decode cX6_findHeldTicks 40 = .ok (.iconst 1, 1) := by decide +kernel
theorem dX6_findHeldTicks_41 : decode cX6_findHeldTicks 41 = .ok (.isub, 1) := by decide +kernel
theorem dX6_findHeldTicks_42 : decode cX6_findHeldTicks 42 = .ok (.istore 4, 2) := by decide +kernel
theorem dX6_findHeldTicks_44 : decode cX6_findHeldTicks 44 = .ok (.iload 4, 2) := by decide +kernel
theorem dX6_findHeldTicks_46 : decode cX6_findHeldTicks 46 = .ok (.ifCond .lt 64, 3) := by decide +kernel
theorem dX6_findHeldTicks_49 : decode cX6_findHeldTicks 49 = .ok (.aload_n 0, 1) := by decide +kernel
theorem dX6_findHeldTicks_50 : decode cX6_findHeldTicks 50 = .ok (.getfield 18, 3) := by decide +kernel
theorem dX6_findHeldTicks_53 : decode cX6_findHeldTicks 53 = .ok (.iload_n 1, 1) := by decide +kernel
theorem dX6_findHeldTicks_54 : decode cX6_findHeldTicks 54 = .ok (.iload_n 2, 1) := by decide +kernel
theorem dX6_findHeldTicks_55 : decode cX6_findHeldTicks 55 = .ok (.iload 4, 2) := by decide +kernel
theorem dX6_findHeldTicks_57 : decode cX6_findHeldTicks 57 = .ok (.invokevirtual 26, 3) := by decide +kernel
theorem dX6_findHeldTicks_60 : decode cX6_findHeldTicks 60 = .ok (.invokestatic 38, 3) := by decide +kernel
theorem dX6_findHeldTicks_63 : decode cX6_findHeldTicks 63 = .ok (.istore 5, 2) := by decide +kernel
theorem dX6_findHeldTicks_65 : decode cX6_findHeldTicks 65 = .ok (.aload_n 0, 1) := by decide +kernel
theorem dX6_findHeldTicks_66 : decode cX6_findHeldTicks 66 = .ok (.getfield 18, 3) := by decide +kernel
theorem dX6_findHeldTicks_69 : decode cX6_findHeldTicks 69 = .ok (.iload_n 1, 1) := by decide +kernel
theorem dX6_findHeldTicks_70 : decode cX6_findHeldTicks 70 = .ok (.iload_n 2, 1) := by decide +kernel
theorem dX6_findHeldTicks_71 : decode cX6_findHeldTicks 71 = .ok (.iload 4, 2) := by decide +kernel
theorem dX6_findHeldTicks_73 : decode cX6_findHeldTicks 73 = .ok (.invokevirtual 76, 3) := by decide +kernel
theorem dX6_findHeldTicks_76 : decode cX6_findHeldTicks 76 = .ok (.ifCond .eq 10, 3) := by decide +kernel
theorem dX6_findHeldTicks_79 : decode cX6_findHeldTicks 79 = .ok (.iload 5, 2) := by decide +kernel
theorem dX6_findHeldTicks_81 : decode cX6_findHeldTicks 81 = .ok (.iload_n 3, 1) := by decide +kernel
theorem dX6_findHeldTicks_82 : decode cX6_findHeldTicks 82 = .ok (.iadd, 1) := by decide +kernel
theorem dX6_findHeldTicks_83 : decode cX6_findHeldTicks 83 = .ok (.goto 5, 3) := by decide +kernel
theorem dX6_findHeldTicks_86 : decode cX6_findHeldTicks 86 = .ok (.iload 5, 2) := by decide +kernel
theorem dX6_findHeldTicks_88 : decode cX6_findHeldTicks 88 = .ok (.istore_n 3, 1) := by decide +kernel
theorem dX6_findHeldTicks_89 : decode cX6_findHeldTicks 89 = .ok (.aload_n 0, 1) := by decide +kernel
theorem dX6_findHeldTicks_90 : decode cX6_findHeldTicks 90 = .ok (.getfield 15, 3) := by decide +kernel
theorem dX6_findHeldTicks_93 : decode cX6_findHeldTicks 93 = .ok (.iload_n 1, 1) := by decide +kernel
theorem dX6_findHeldTicks_94 : decode cX6_findHeldTicks 94 = .ok (.iload_n 2, 1) := by decide +kernel
theorem dX6_findHeldTicks_95 : decode cX6_findHeldTicks 95 = .ok (.iload 4, 2) := by decide +kernel
theorem dX6_findHeldTicks_97 : decode cX6_findHeldTicks 97 = .ok (.invokestatic 22, 3) := by decide +kernel
theorem dX6_findHeldTicks_100 : decode cX6_findHeldTicks 100 = .ok (.iload_n 3, 1) := by decide +kernel
theorem dX6_findHeldTicks_101 : decode cX6_findHeldTicks 101 = .ok (.invokestatic 72, 3) := by decide +kernel
theorem dX6_findHeldTicks_104 : decode cX6_findHeldTicks 104 = .ok (.iinc 4 (-1), 3) := by decide +kernel
theorem dX6_findHeldTicks_107 : decode cX6_findHeldTicks 107 = .ok (.goto (-63), 3) := by decide +kernel
theorem dX6_findHeldTicks_110 : decode cX6_findHeldTicks 110 = .ok (.iinc 2 1, 3) := by decide +kernel
theorem dX6_findHeldTicks_113 : decode cX6_findHeldTicks 113 = .ok (.goto (-97), 3) := by decide +kernel
theorem dX6_findHeldTicks_116 : decode cX6_findHeldTicks 116 = .ok (.iinc 1 (-1), 3) := by decide +kernel
theorem dX6_findHeldTicks_119 : decode cX6_findHeldTicks 119 = .ok (.goto (-109), 3) := by decide +kernel
theorem dX6_findHeldTicks_122 : decode cX6_findHeldTicks 122 = .ok (.return_, 1) := by decide +kernel
theorem dX6_put_0 : decode cX6_put 0 = .ok (.iload_n 1, 1) := by decide +kernel
theorem dX6_put_1 : decode cX6_put 1 = .ok (.ifCond .lt 13, 3) := by decide +kernel
theorem dX6_put_4 : decode cX6_put 4 = .ok (.iload_n 1, 1) := by decide +kernel
theorem dX6_put_5 : decode cX6_put 5 = .ok (.aload_n 0, 1) := by decide +kernel
theorem dX6_put_6 : decode cX6_put 6 = .ok (.arraylength, 1) := by decide +kernel
theorem dX6_put_7 : decode cX6_put 7 = .ok (.if_icmp .ge 7, 3) := by decide +kernel
theorem dX6_put_10 : decode cX6_put 10 = .ok (.aload_n 0, 1) := by decide +kernel
theorem dX6_put_11 : decode cX6_put 11 = .ok (.iload_n 1, 1) := by decide +kernel
theorem dX6_put_12 : decode cX6_put 12 = .ok (.iload_n 2, 1) := by decide +kernel
theorem dX6_put_13 : decode cX6_put 13 = .ok (.iastore, 1) := by decide +kernel
theorem dX6_put_14 : decode cX6_put 14 = .ok (.return_, 1) := by decide +kernel
theorem dX6_shiftBefore_0 : decode cX6_shiftBefore 0 = .ok (.iload_n 3, 1) := by decide +kernel
theorem dX6_shiftBefore_1 : decode cX6_shiftBefore 1 = .ok (.ifCond .le 15, 3) := by decide +kernel
theorem dX6_shiftBefore_4 : decode cX6_shiftBefore 4 = .ok (.aload_n 0, 1) := by decide +kernel
theorem dX6_shiftBefore_5 : decode cX6_shiftBefore 5 = .ok (.iload_n 1, 1) := by decide +kernel
theorem dX6_shiftBefore_6 : decode cX6_shiftBefore 6 = .ok (.iload_n 2, 1) := by decide +kernel
theorem dX6_shiftBefore_7 : decode cX6_shiftBefore 7 = .ok (.iload_n 3, 1) := by decide +kernel
theorem dX6_shiftBefore_8 : decode cX6_shiftBefore 8 = .ok (.iconst 1, 1) := by decide +kernel
theorem dX6_shiftBefore_9 : decode cX6_shiftBefore 9 = .ok (.isub, 1) := by decide +kernel
theorem dX6_shiftBefore_10 : decode cX6_shiftBefore 10 = .ok (.invokevirtual 51, 3) := by decide +kernel
theorem dX6_shiftBefore_13 : decode cX6_shiftBefore 13 = .ok (.goto 24, 3) := by decide +kernel
theorem dX6_shiftBefore_16 : decode cX6_shiftBefore 16 = .ok (.aload_n 0, 1) := by decide +kernel
theorem dX6_shiftBefore_17 : decode cX6_shiftBefore 17 = .ok (.iload_n 1, 1) := by decide +kernel
theorem dX6_shiftBefore_18 : decode cX6_shiftBefore 18 = .ok (.iconst 1, 1) := by decide +kernel
theorem dX6_shiftBefore_19 : decode cX6_shiftBefore 19 = .ok (.isub, 1) := by decide +kernel
theorem dX6_shiftBefore_20 : decode cX6_shiftBefore 20 = .ok (.iload_n 2, 1) := by decide +kernel
theorem dX6_shiftBefore_21 : decode cX6_shiftBefore 21 = .ok (.aload_n 0, 1) := by decide +kernel
theorem dX6_shiftBefore_22 : decode cX6_shiftBefore 22 = .ok (.getfield 18, 3) := by decide +kernel
theorem dX6_shiftBefore_25 : decode cX6_shiftBefore 25 = .ok (.iload_n 1, 1) := by decide +kernel
theorem dX6_shiftBefore_26 : decode cX6_shiftBefore 26 = .ok (.iconst 1, 1) := by decide +kernel
theorem dX6_shiftBefore_27 : decode cX6_shiftBefore 27 = .ok (.isub, 1) := by decide +kernel
theorem dX6_shiftBefore_28 : decode cX6_shiftBefore 28 = .ok (.iload_n 2, 1) := by decide +kernel
theorem dX6_shiftBefore_29 : decode cX6_shiftBefore 29 = .ok (.invokevirtual 65, 3) := by decide +kernel
theorem dX6_shiftBefore_32 : decode cX6_shiftBefore 32 = .ok (.iconst 1, 1) := by decide +kernel
theorem dX6_shiftBefore_33 : decode cX6_shiftBefore 33 = .ok (.isub, 1) := by decide +kernel
theorem dX6_shiftBefore_34 : decode cX6_shiftBefore 34 = .ok (.invokevirtual 51, 3) := by decide +kernel
theorem dX6_shiftBefore_37 : decode cX6_shiftBefore 37 = .ok (.ireturn, 1) := by decide +kernel
theorem dX6_shiftWith_0 : decode cX6_shiftWith 0 = .ok (.aload_n 0, 1) := by decide +kernel
theorem dX6_shiftWith_1 : decode cX6_shiftWith 1 = .ok (.getfield 18, 3) := by decide +kernel
theorem dX6_shiftWith_4 : decode cX6_shiftWith 4 = .ok (.iload_n 1, 1) := by decide +kernel
theorem dX6_shiftWith_5 : decode cX6_shiftWith 5 = .ok (.iload_n 2, 1) := by decide +kernel
theorem dX6_shiftWith_6 : decode cX6_shiftWith 6 = .ok (.iload_n 3, 1) := by decide +kernel
theorem dX6_shiftWith_7 : decode cX6_shiftWith 7 = .ok (.invokevirtual 26, 3) := by decide +kernel
theorem dX6_shiftWith_10 : decode cX6_shiftWith 10 = .ok (.invokestatic 80, 3) := by decide +kernel
theorem dX6_shiftWith_13 : decode cX6_shiftWith 13 = .ok (.istore 6, 2) := by decide +kernel
theorem dX6_shiftWith_15 : decode cX6_shiftWith 15 = .ok (.iload 6, 2) := by decide +kernel
theorem dX6_shiftWith_17 : decode cX6_shiftWith 17 = .ok (.ifCond .eq 11, 3) := by decide +kernel
theorem dX6_shiftWith_20 : decode cX6_shiftWith 20 = .ok (.iload 6, 2) := by decide +kernel
theorem dX6_shiftWith_22 : decode cX6_shiftWith 22 = .ok (.invokestatic 83, 3) := by decide +kernel
theorem dX6_shiftWith_25 : decode cX6_shiftWith 25 = .ok (.goto 14, 3) := by decide +kernel
theorem dX6_shiftWith_28 : decode cX6_shiftWith 28 = .ok (.aload_n 0, 1) := by decide +kernel
theorem dX6_shiftWith_29 : decode cX6_shiftWith 29 = .ok (.iload_n 1, 1) := by decide +kernel
theorem dX6_shiftWith_30 : decode cX6_shiftWith 30 = .ok (.iload_n 2, 1) := by decide +kernel
theorem dX6_shiftWith_31 : decode cX6_shiftWith 31 = .ok (.iload_n 3, 1) := by decide +kernel
theorem dX6_shiftWith_32 : decode cX6_shiftWith 32 = .ok (.iload 4, 2) := by decide +kernel
theorem dX6_shiftWith_34 : decode cX6_shiftWith 34 = .ok (.iload 5, 2) := by decide +kernel
theorem dX6_shiftWith_36 : decode cX6_shiftWith 36 = .ok (.invokevirtual 86, 3) := by decide +kernel
theorem dX6_shiftWith_39 : decode cX6_shiftWith 39 = .ok (.ireturn, 1) := by decide +kernel
theorem dX6_shiftWithoutSign_0 : decode cX6_shiftWithoutSign 0 = .ok (.aload_n 0, 1) := by decide +kernel
theorem dX6_shiftWithoutSign_1 : decode cX6_shiftWithoutSign 1 = .ok (.getfield 18, 3) := by decide +kernel
theorem dX6_shiftWithoutSign_4 : decode cX6_shiftWithoutSign 4 = .ok (.iload_n 1, 1) := by decide +kernel
theorem dX6_shiftWithoutSign_5 : decode cX6_shiftWithoutSign 5 = .ok (.iload_n 2, 1) := by decide +kernel
theorem dX6_shiftWithoutSign_6 : decode cX6_shiftWithoutSign 6 = .ok (.iload_n 3, 1) := by decide +kernel
theorem dX6_shiftWithoutSign_7 : decode cX6_shiftWithoutSign 7 = .ok (.invokevirtual 26, 3) := by decide +kernel
theorem dX6_shiftWithoutSign_10 : decode cX6_shiftWithoutSign 10 = .ok (.istore 6, 2) := by decide +kernel
theorem dX6_shiftWithoutSign_12 : decode cX6_shiftWithoutSign 12 = .ok (.aload_n 0, 1) := by decide +kernel
theorem dX6_shiftWithoutSign_13 : decode cX6_shiftWithoutSign 13 = .ok (.getfield 18, 3) := by decide +kernel
theorem dX6_shiftWithoutSign_16 : decode cX6_shiftWithoutSign 16 = .ok (.iload_n 1, 1) := by decide +kernel
theorem dX6_shiftWithoutSign_17 : decode cX6_shiftWithoutSign 17 = .ok (.iload_n 2, 1) := by decide +kernel
theorem dX6_shiftWithoutSign_18 : decode cX6_shiftWithoutSign 18 = .ok (.iload_n 3, 1) := by decide +kernel
theorem dX6_shiftWithoutSign_19 : decode cX6_shiftWithoutSign 19 = .ok (.invokevirtual 89, 3) := by decide +kernel
theorem dX6_shiftWithoutSign_22 : decode cX6_shiftWithoutSign 22 = .ok (.istore 7, 2) := by decide +kernel
theorem dX6_shiftWithoutSign_24 : decode cX6_shiftWithoutSign 24 = .ok (.iload 7, 2) := by decide +kernel
theorem dX6_shiftWithoutSign_26 : decode cX6_shiftWithoutSign 26 = .ok (.invokestatic 29, 3) := by decide +kernel
theorem dX6_shiftWithoutSign_29 : decode cX6_shiftWithoutSign 29 = .ok (.ifCond .eq 16, 3) := by decide +kernel
theorem dX6_shiftWithoutSign_32 : decode cX6_shiftWithoutSign 32 = .ok (.iload 7, 2) := by decide +kernel
theorem dX6_shiftWithoutSign_34 : decode cX6_shiftWithoutSign 34 = .ok (.iload 6, 2) := by decide +kernel
theorem dX6_shiftWithoutSign_36 : decode cX6_shiftWithoutSign 36 = .ok (.invokestatic 92, 3) := by decide +kernel
theorem dX6_shiftWithoutSign_39 : decode cX6_shiftWithoutSign 39 = .ok (.ifCond .eq 6, 3) := by decide +kernel
theorem dX6_shiftWithoutSign_42 : decode cX6_shiftWithoutSign 42 = .ok (.iload 5, 2) := by decide +kernel
theorem dX6_shiftWithoutSign_44 : decode cX6_shiftWithoutSign 44 = .ok (.ireturn, 1) := by decide +kernel
theorem dX6_shiftWithoutSign_45 : decode cX6_shiftWithoutSign 45 = .ok (.iload_n 3, 1) := by decide +kernel
theorem dX6_shiftWithoutSign_46 : decode cX6_shiftWithoutSign 46 = .ok (.iconst 1, 1) := by decide +kernel
theorem dX6_shiftWithoutSign_47 : decode cX6_shiftWithoutSign 47 = .ok (.isub, 1) := by decide +kernel
theorem dX6_shiftWithoutSign_48 : decode cX6_shiftWithoutSign 48 = .ok (.istore 8, 2) := by decide +kernel
theorem dX6_shiftWithoutSign_50 : decode cX6_shiftWithoutSign 50 = .ok (.iload 8, 2) := by decide +kernel
theorem dX6_shiftWithoutSign_52 : decode cX6_shiftWithoutSign 52 = .ok (.ifCond .lt 49, 3) := by decide +kernel
theorem dX6_shiftWithoutSign_55 : decode cX6_shiftWithoutSign 55 = .ok (.aload_n 0, 1) := by decide +kernel
theorem dX6_shiftWithoutSign_56 : decode cX6_shiftWithoutSign 56 = .ok (.getfield 18, 3) := by decide +kernel
theorem dX6_shiftWithoutSign_59 : decode cX6_shiftWithoutSign 59 = .ok (.iload_n 1, 1) := by decide +kernel
theorem dX6_shiftWithoutSign_60 : decode cX6_shiftWithoutSign 60 = .ok (.iload_n 2, 1) := by decide +kernel
theorem dX6_shiftWithoutSign_61 : decode cX6_shiftWithoutSign 61 = .ok (.iload 8, 2) := by decide +kernel
theorem dX6_shiftWithoutSign_63 : decode cX6_shiftWithoutSign 63 = .ok (.invokevirtual 26, 3) := by decide +kernel
theorem dX6_shiftWithoutSign_66 : decode cX6_shiftWithoutSign 66 = .ok (.istore 9, 2) := by decide +kernel
theorem dX6_shiftWithoutSign_68 : decode cX6_shiftWithoutSign 68 = .ok (.iload 9, 2) := by decide +kernel
theorem dX6_shiftWithoutSign_70 : decode cX6_shiftWithoutSign 70 = .ok (.iload 6, 2) := by decide +kernel
theorem dX6_shiftWithoutSign_72 : decode cX6_shiftWithoutSign 72 = .ok (.invokestatic 92, 3) := by decide +kernel
theorem dX6_shiftWithoutSign_75 : decode cX6_shiftWithoutSign 75 = .ok (.ifCond .eq 20, 3) := by decide +kernel
theorem dX6_shiftWithoutSign_78 : decode cX6_shiftWithoutSign 78 = .ok (.iload 9, 2) := by decide +kernel
theorem dX6_shiftWithoutSign_80 : decode cX6_shiftWithoutSign 80 = .ok (.invokestatic 80, 3) := by decide +kernel
theorem dX6_shiftWithoutSign_83 : decode cX6_shiftWithoutSign 83 = .ok (.ifCond .eq 12, 3) := by decide +kernel
theorem dX6_shiftWithoutSign_86 : decode cX6_shiftWithoutSign 86 = .ok (.iload 9, 2) := by decide +kernel
theorem dX6_shiftWithoutSign_88 : decode cX6_shiftWithoutSign 88 = .ok (.invokestatic 80, 3) := by decide +kernel
theorem dX6_shiftWithoutSign_91 : decode cX6_shiftWithoutSign 91 = .ok (.invokestatic 83, 3) := by decide +kernel
theorem dX6_shiftWithoutSign_94 : decode cX6_shiftWithoutSign 94 = .ok (.ireturn, 1) := by decide +kernel
theorem dX6_shiftWithoutSign_95 : decode cX6_shiftWithoutSign 95 = .ok (.iinc 8 (-1), 3) := by decide +kernel
theorem dX6_shiftWithoutSign_98 : decode cX6_shiftWithoutSign 98 = .ok (.goto (-48), 3) := by decide +kernel
theorem dX6_shiftWithoutSign_101 : decode cX6_shiftWithoutSign 101 = .ok (.iload 4, 2) := by decide +kernel
theorem dX6_shiftWithoutSign_103 : decode cX6_shiftWithoutSign 103 = .ok (.iload 6, 2) := by decide +kernel
theorem dX6_shiftWithoutSign_105 : decode cX6_shiftWithoutSign 105 = .ok (.invokestatic 42, 3) := by decide +kernel
theorem dX6_shiftWithoutSign_108 : decode cX6_shiftWithoutSign 108 = .ok (.invokestatic 96, 3) := by decide +kernel
theorem dX6_shiftWithoutSign_111 : decode cX6_shiftWithoutSign 111 = .ok (.ireturn, 1) := by decide +kernel
theorem dX6_signShift_0 : decode cX6_signShift 0 = .ok (.iload_n 0, 1) := by decide +kernel
theorem dX6_signShift_1 : decode cX6_signShift 1 = .ok (.iconst 1, 1) := by decide +kernel
theorem dX6_signShift_2 : decode cX6_signShift 2 = .ok (.if_icmp .ne 7, 3) := by decide +kernel
theorem dX6_signShift_5 : decode cX6_signShift 5 = .ok (.iconst 1, 1) := by decide +kernel
theorem dX6_signShift_6 : decode cX6_signShift 6 = .ok (.goto 13, 3) := by decide +kernel
theorem dX6_signShift_9 : decode cX6_signShift 9 = .ok (.iload_n 0, 1) := by decide +kernel
theorem dX6_signShift_10 : decode cX6_signShift 10 = .ok (.iconst 2, 1) := by decide +kernel
theorem dX6_signShift_11 : decode cX6_signShift 11 = .ok (.if_icmp .ne 7, 3) := by decide +kernel
theorem dX6_signShift_14 : decode cX6_signShift 14 = .ok (.iconst (-1), 1) := by decide +kernel
theorem dX6_signShift_15 : decode cX6_signShift 15 = .ok (.goto 4, 3) := by decide +kernel
theorem dX6_signShift_18 : decode cX6_signShift 18 = .ok (.iconst 0, 1) := by decide +kernel
theorem dX6_signShift_19 : decode cX6_signShift 19 = .ok (.ireturn, 1) := by decide +kernel
theorem dX6_keyShift_0 : decode cX6_keyShift 0 = .ok (.iconst 0, 1) := by decide +kernel
theorem dX6_keyShift_1 : decode cX6_keyShift 1 = .ok (.istore_n 2, 1) := by decide +kernel
theorem dX6_keyShift_2 : decode cX6_keyShift 2 = .ok (.iload_n 2, 1) := by decide +kernel
theorem dX6_keyShift_3 : decode cX6_keyShift 3 = .ok (.getstatic 99, 3) := by decide +kernel
theorem dX6_keyShift_6 : decode cX6_keyShift 6 = .ok (.arraylength, 1) := by decide +kernel
theorem dX6_keyShift_7 : decode cX6_keyShift 7 = .ok (.if_icmp .ge 25, 3) := by decide +kernel
theorem dX6_keyShift_10 : decode cX6_keyShift 10 = .ok (.iload_n 2, 1) := by decide +kernel
theorem dX6_keyShift_11 : decode cX6_keyShift 11 = .ok (.iload_n 0, 1) := by decide +kernel
theorem dX6_keyShift_12 : decode cX6_keyShift 12 = .ok (.if_icmp .ge 20, 3) := by decide +kernel
theorem dX6_keyShift_15 : decode cX6_keyShift 15 = .ok (.getstatic 99, 3) := by decide +kernel
theorem dX6_keyShift_18 : decode cX6_keyShift 18 = .ok (.iload_n 2, 1) := by decide +kernel
theorem dX6_keyShift_19 : decode cX6_keyShift 19 = .ok (.iaload, 1) := by decide +kernel
theorem dX6_keyShift_20 : decode cX6_keyShift 20 = .ok (.iload_n 1, 1) := by decide +kernel
theorem dX6_keyShift_21 : decode cX6_keyShift 21 = .ok (.if_icmp .ne 5, 3) := by decide +kernel
theorem dX6_keyShift_24 : decode cX6_keyShift 24 = .ok (.iconst 1, 1) := by decide +kernel
theorem dX6_keyShift_25 : decode cX6_keyShift 25 = .ok (.ireturn, 1) := by decide +kernel
theorem dX6_keyShift_26 : decode cX6_keyShift 26 = .ok (.iinc 2 1, 3) := by decide +kernel
theorem dX6_keyShift_29 : decode cX6_keyShift 29 = .ok (.goto (-27), 3) := by decide +kernel
theorem dX6_keyShift_32 : decode cX6_keyShift 32 = .ok (.iconst 0, 1) := by decide +kernel
theorem dX6_keyShift_33 : decode cX6_keyShift 33 = .ok (.istore_n 2, 1) := by decide +kernel
theorem dX6_keyShift_34 : decode cX6_keyShift 34 = .ok (.iload_n 2, 1) := by decide +kernel
theorem dX6_keyShift_35 : decode cX6_keyShift 35 = .ok (.getstatic 102, 3) := by decide +kernel
theorem dX6_keyShift_38 : decode cX6_keyShift 38 = .ok (.arraylength, 1) := by decide +kernel
theorem dX6_keyShift_39 : decode cX6_keyShift 39 = .ok (.if_icmp .ge 26, 3) := by decide +kernel
theorem dX6_keyShift_42 : decode cX6_keyShift 42 = .ok (.iload_n 2, 1) := by decide +kernel
theorem dX6_keyShift_43 : decode cX6_keyShift 43 = .ok (.iload_n 0, 1) := by decide +kernel
theorem dX6_keyShift_44 : decode cX6_keyShift 44 = .ok (.ineg, 1) := by decide +kernel
theorem dX6_keyShift_45 : decode cX6_keyShift 45 = .ok (.if_icmp .ge 20, 3) := by decide +kernel
theorem dX6_keyShift_48 : decode cX6_keyShift 48 = .ok (.getstatic 102, 3) := by decide +kernel
theorem dX6_keyShift_51 : decode cX6_keyShift 51 = .ok (.iload_n 2, 1) := by decide +kernel
theorem dX6_keyShift_52 : decode cX6_keyShift 52 = .ok (.iaload, 1) := by decide +kernel
theorem dX6_keyShift_53 : decode cX6_keyShift 53 = .ok (.iload_n 1, 1) := by decide +kernel
theorem dX6_keyShift_54 : decode cX6_keyShift 54 = .ok (.if_icmp .ne 5, 3) := by decide +kernel
theorem dX6_keyShift_57 : decode cX6_keyShift 57 = .ok (.iconst (-1), 1) := by decide +kernel
theorem dX6_keyShift_58 : decode cX6_keyShift 58 = .ok (.ireturn, 1) := by decide +kernel
theorem dX6_keyShift_59 : decode cX6_keyShift 59 = .ok (.iinc 2 1, 3) := by decide +kernel
theorem dX6_keyShift_62 : decode cX6_keyShift 62 = .ok (.goto (-28), 3) := by decide +kernel
theorem dX6_keyShift_65 : decode cX6_keyShift 65 = .ok (.iconst 0, 1) := by decide +kernel
theorem dX6_keyShift_66 : decode cX6_keyShift 66 = .ok (.ireturn, 1) := by decide +kernel
theorem dX6_changedWith_0 : decode cX6_changedWith 0 = .ok (.iconst 0, 1) := by decide +kernel
theorem dX6_changedWith_1 : decode cX6_changedWith 1 = .ok (.istore_n 3, 1) := by decide +kernel
theorem dX6_changedWith_2 : decode cX6_changedWith 2 = .ok (.iconst 0, 1) := by decide +kernel
theorem dX6_changedWith_3 : decode cX6_changedWith 3 = .ok (.istore 4, 2) := by decide +kernel
theorem dX6_changedWith_5 : decode cX6_changedWith 5 = .ok (.iload 4, 2) := by decide +kernel
theorem dX6_changedWith_7 : decode cX6_changedWith 7 = .ok (.iconst 2, 1) := by decide +kernel
theorem dX6_changedWith_8 : decode cX6_changedWith 8 = .ok (.if_icmp .ge 109, 3) := by decide +kernel
theorem dX6_changedWith_11 : decode cX6_changedWith 11 = .ok (.aload_n 0, 1) := by decide +kernel
theorem dX6_changedWith_12 : decode cX6_changedWith 12 = .ok (.iload_n 1, 1) := by decide +kernel
theorem dX6_changedWith_13 : decode cX6_changedWith 13 = .ok (.iload 4, 2) := by decide +kernel
theorem dX6_changedWith_15 : decode cX6_changedWith 15 = .ok (.iconst 0, 1) := by decide +kernel
theorem dX6_changedWith_16 : decode cX6_changedWith 16 = .ok (.invokevirtual 62, 3) := by decide +kernel
theorem dX6_changedWith_19 : decode cX6_changedWith 19 = .ok (.istore 5, 2) := by decide +kernel
theorem dX6_changedWith_21 : decode cX6_changedWith 21 = .ok (.iconst 0, 1) := by decide +kernel
theorem dX6_changedWith_22 : decode cX6_changedWith 22 = .ok (.istore 6, 2) := by decide +kernel
theorem dX6_changedWith_24 : decode cX6_changedWith 24 = .ok (.iload 6, 2) := by decide +kernel
theorem dX6_changedWith_26 : decode cX6_changedWith 26 = .ok (.aload_n 0, 1) := by decide +kernel
theorem dX6_changedWith_27 : decode cX6_changedWith 27 = .ok (.getfield 18, 3) := by decide +kernel
theorem dX6_changedWith_30 : decode cX6_changedWith 30 = .ok (.iload_n 1, 1) := by decide +kernel
theorem dX6_changedWith_31 : decode cX6_changedWith 31 = .ok (.iload 4, 2) := by decide +kernel
theorem dX6_changedWith_33 : decode cX6_changedWith 33 = .ok (.invokevirtual 65, 3) := by decide +kernel
theorem dX6_changedWith_36 : decode cX6_changedWith 36 = .ok (.if_icmp .ge 75, 3) := by decide +kernel
theorem dX6_changedWith_39 : decode cX6_changedWith 39 = .ok (.aload_n 0, 1) := by decide +kernel
theorem dX6_changedWith_40 : decode cX6_changedWith 40 = .ok (.iload_n 1, 1) := by decide +kernel
theorem dX6_changedWith_41 : decode cX6_changedWith 41 = .ok (.iload 4, 2) := by decide +kernel
theorem dX6_changedWith_43 : decode cX6_changedWith 43 = .ok (.iload 6, 2) := by decide +kernel
theorem dX6_changedWith_45 : decode cX6_changedWith 45 = .ok (.iload_n 2, 1) := by decide +kernel
theorem dX6_changedWith_46 : decode cX6_changedWith 46 = .ok (.iload 5, 2) := by decide +kernel
theorem dX6_changedWith_48 : decode cX6_changedWith 48 = .ok (.invokevirtual 68, 3) := by decide +kernel
theorem dX6_changedWith_51 : decode cX6_changedWith 51 = .ok (.istore 5, 2) := by decide +kernel
theorem dX6_changedWith_53 : decode cX6_changedWith 53 = .ok (.iload 5, 2) := by decide +kernel
theorem dX6_changedWith_55 : decode cX6_changedWith 55 = .ok (.aload_n 0, 1) := by decide +kernel
theorem dX6_changedWith_56 : decode cX6_changedWith 56 = .ok (.iload_n 1, 1) := by decide +kernel
theorem dX6_changedWith_57 : decode cX6_changedWith 57 = .ok (.iload 4, 2) := by decide +kernel
theorem dX6_changedWith_59 : decode cX6_changedWith 59 = .ok (.iload 6, 2) := by decide +kernel
theorem dX6_changedWith_61 : decode cX6_changedWith 61 = .ok (.invokevirtual 51, 3) := by decide +kernel
theorem dX6_changedWith_64 : decode cX6_changedWith 64 = .ok (.if_icmp .eq 7, 3) := by decide +kernel
theorem dX6_changedWith_67 : decode cX6_changedWith 67 = .ok (.iconst 1, 1) := by decide +kernel
theorem dX6_changedWith_68 : decode cX6_changedWith 68 = .ok (.goto 4, 3) := by decide +kernel
theorem dX6_changedWith_71 : decode cX6_changedWith 71 = .ok (.iconst 0, 1) := by decide +kernel
theorem dX6_changedWith_72 : decode cX6_changedWith 72 = .ok (.istore 7, 2) := by decide +kernel
theorem dX6_changedWith_74 : decode cX6_changedWith 74 = .ok (.iload_n 3, 1) := by decide +kernel
theorem dX6_changedWith_75 : decode cX6_changedWith 75 = .ok (.iload 7, 2) := by decide +kernel
theorem dX6_changedWith_77 : decode cX6_changedWith 77 = .ok (.ifCond .eq 25, 3) := by decide +kernel
theorem dX6_changedWith_80 : decode cX6_changedWith 80 = .ok (.aload_n 0, 1) := by decide +kernel
theorem dX6_changedWith_81 : decode cX6_changedWith 81 = .ok (.getfield 18, 3) := by decide +kernel
theorem dX6_changedWith_84 : decode cX6_changedWith 84 = .ok (.iload_n 1, 1) := by decide +kernel
theorem dX6_changedWith_85 : decode cX6_changedWith 85 = .ok (.iload 4, 2) := by decide +kernel
theorem dX6_changedWith_87 : decode cX6_changedWith 87 = .ok (.iload 6, 2) := by decide +kernel
theorem dX6_changedWith_89 : decode cX6_changedWith 89 = .ok (.invokevirtual 26, 3) := by decide +kernel
theorem dX6_changedWith_92 : decode cX6_changedWith 92 = .ok (.invokestatic 105, 3) := by decide +kernel
theorem dX6_changedWith_95 : decode cX6_changedWith 95 = .ok (.ifCond .eq 7, 3) := by decide +kernel
theorem dX6_changedWith_98 : decode cX6_changedWith 98 = .ok (.iconst 1, 1) := by decide +kernel
theorem dX6_changedWith_99 : decode cX6_changedWith 99 = .ok (.goto 4, 3) := by decide +kernel
theorem dX6_changedWith_102 : decode cX6_changedWith 102 = .ok (.iconst 0, 1) := by decide +kernel
theorem dX6_changedWith_103 : decode cX6_changedWith 103 = .ok (.iadd, 1) := by decide +kernel
theorem dX6_changedWith_104 : decode cX6_changedWith 104 = .ok (.istore_n 3, 1) := by decide +kernel
theorem dX6_changedWith_105 : decode cX6_changedWith 105 = .ok (.iinc 6 1, 3) := by decide +kernel
theorem dX6_changedWith_108 : decode cX6_changedWith 108 = .ok (.goto (-84), 3) := by decide +kernel
theorem dX6_changedWith_111 : decode cX6_changedWith 111 = .ok (.iinc 4 1, 3) := by decide +kernel
theorem dX6_changedWith_114 : decode cX6_changedWith 114 = .ok (.goto (-109), 3) := by decide +kernel
theorem dX6_changedWith_117 : decode cX6_changedWith 117 = .ok (.iload_n 3, 1) := by decide +kernel
theorem dX6_changedWith_118 : decode cX6_changedWith 118 = .ok (.ireturn, 1) := by decide +kernel
theorem dX6_signsWithoutEffect_0 : decode cX6_signsWithoutEffect 0 = .ok (.aload_n 0, 1) := by decide +kernel
theorem dX6_signsWithoutEffect_1 : decode cX6_signsWithoutEffect 1 = .ok (.getfield 18, 3) := by decide +kernel
theorem dX6_signsWithoutEffect_4 : decode cX6_signsWithoutEffect 4 = .ok (.iload_n 1, 1) := by decide +kernel
theorem dX6_signsWithoutEffect_5 : decode cX6_signsWithoutEffect 5 = .ok (.iconst 0, 1) := by decide +kernel
theorem dX6_signsWithoutEffect_6 : decode cX6_signsWithoutEffect 6 = .ok (.invokevirtual 58, 3) := by decide +kernel
theorem dX6_signsWithoutEffect_9 : decode cX6_signsWithoutEffect 9 = .ok (.istore_n 2, 1) := by decide +kernel
theorem dX6_signsWithoutEffect_10 : decode cX6_signsWithoutEffect 10 = .ok (.iconst 0, 1) := by decide +kernel
theorem dX6_signsWithoutEffect_11 : decode cX6_signsWithoutEffect 11 = .ok (.istore_n 3, 1) := by decide +kernel
theorem dX6_signsWithoutEffect_12 : decode cX6_signsWithoutEffect 12 = .ok (.iconst 0, 1) := by decide +kernel
theorem dX6_signsWithoutEffect_13 : decode cX6_signsWithoutEffect 13 = .ok (.istore 4, 2) := by decide +kernel
theorem dX6_signsWithoutEffect_15 : decode cX6_signsWithoutEffect 15 = .ok (.iload 4, 2) := by decide +kernel
theorem dX6_signsWithoutEffect_17 : decode cX6_signsWithoutEffect 17 = .ok (.iconst 2, 1) := by decide +kernel
theorem dX6_signsWithoutEffect_18 : decode cX6_signsWithoutEffect 18 = .ok (.if_icmp .ge 98, 3) := by decide +kernel
theorem dX6_signsWithoutEffect_21 : decode cX6_signsWithoutEffect 21 = .ok (.iconst 0, 1) := by decide +kernel
theorem dX6_signsWithoutEffect_22 : decode cX6_signsWithoutEffect 22 = .ok (.istore 5, 2) := by decide +kernel
theorem dX6_signsWithoutEffect_24 : decode cX6_signsWithoutEffect 24 = .ok (.iload 5, 2) := by decide +kernel
theorem dX6_signsWithoutEffect_26 : decode cX6_signsWithoutEffect 26 = .ok (.aload_n 0, 1) := by decide +kernel
theorem dX6_signsWithoutEffect_27 : decode cX6_signsWithoutEffect 27 = .ok (.getfield 18, 3) := by decide +kernel
theorem dX6_signsWithoutEffect_30 : decode cX6_signsWithoutEffect 30 = .ok (.iload_n 1, 1) := by decide +kernel
theorem dX6_signsWithoutEffect_31 : decode cX6_signsWithoutEffect 31 = .ok (.iload 4, 2) := by decide +kernel
theorem dX6_signsWithoutEffect_33 : decode cX6_signsWithoutEffect 33 = .ok (.invokevirtual 65, 3) := by decide +kernel
theorem dX6_signsWithoutEffect_36 : decode cX6_signsWithoutEffect 36 = .ok (.if_icmp .ge 74, 3) := by decide +kernel
theorem dX6_signsWithoutEffect_39 : decode cX6_signsWithoutEffect 39 = .ok (.aload_n 0, 1) := by decide +kernel
theorem dX6_signsWithoutEffect_40 : decode cX6_signsWithoutEffect 40 = .ok (.getfield 18, 3) := by decide +kernel
theorem dX6_signsWithoutEffect_43 : decode cX6_signsWithoutEffect 43 = .ok (.iload_n 1, 1) := by decide +kernel
theorem dX6_signsWithoutEffect_44 : decode cX6_signsWithoutEffect 44 = .ok (.iload 4, 2) := by decide +kernel
theorem dX6_signsWithoutEffect_46 : decode cX6_signsWithoutEffect 46 = .ok (.iload 5, 2) := by decide +kernel
theorem dX6_signsWithoutEffect_48 : decode cX6_signsWithoutEffect 48 = .ok (.invokevirtual 26, 3) := by decide +kernel
theorem dX6_signsWithoutEffect_51 : decode cX6_signsWithoutEffect 51 = .ok (.invokestatic 80, 3) := by decide +kernel
theorem dX6_signsWithoutEffect_54 : decode cX6_signsWithoutEffect 54 = .ok (.ifCond .eq 50, 3) := by decide +kernel
theorem dX6_signsWithoutEffect_57 : decode cX6_signsWithoutEffect 57 = .ok (.aload_n 0, 1) := by decide +kernel
theorem dX6_signsWithoutEffect_58 : decode cX6_signsWithoutEffect 58 = .ok (.iload_n 1, 1) := by decide +kernel
theorem dX6_signsWithoutEffect_59 : decode cX6_signsWithoutEffect 59 = .ok (.iload 4, 2) := by decide +kernel
theorem dX6_signsWithoutEffect_61 : decode cX6_signsWithoutEffect 61 = .ok (.iload 5, 2) := by decide +kernel
theorem dX6_signsWithoutEffect_63 : decode cX6_signsWithoutEffect 63 = .ok (.invokevirtual 62, 3) := by decide +kernel
theorem dX6_signsWithoutEffect_66 : decode cX6_signsWithoutEffect 66 = .ok (.istore 6, 2) := by decide +kernel
theorem dX6_signsWithoutEffect_68 : decode cX6_signsWithoutEffect 68 = .ok (.aload_n 0, 1) := by decide +kernel
theorem dX6_signsWithoutEffect_69 : decode cX6_signsWithoutEffect 69 = .ok (.iload_n 1, 1) := by decide +kernel
theorem dX6_signsWithoutEffect_70 : decode cX6_signsWithoutEffect 70 = .ok (.iload 4, 2) := by decide +kernel
theorem dX6_signsWithoutEffect_72 : decode cX6_signsWithoutEffect 72 = .ok (.iload 5, 2) := by decide +kernel
theorem dX6_signsWithoutEffect_74 : decode cX6_signsWithoutEffect 74 = .ok (.iload_n 2, 1) := by decide +kernel
theorem dX6_signsWithoutEffect_75 : decode cX6_signsWithoutEffect 75 = .ok (.iload 6, 2) := by decide +kernel
theorem dX6_signsWithoutEffect_77 : decode cX6_signsWithoutEffect 77 = .ok (.invokevirtual 86, 3) := by decide +kernel
theorem dX6_signsWithoutEffect_80 : decode cX6_signsWithoutEffect 80 = .ok (.istore 7, 2) := by decide +kernel
theorem dX6_signsWithoutEffect_82 : decode cX6_signsWithoutEffect 82 = .ok (.iload_n 3, 1) := by decide +kernel
theorem dX6_signsWithoutEffect_83 : decode cX6_signsWithoutEffect 83 = .ok (.iload 7, 2) := by decide +kernel
theorem dX6_signsWithoutEffect_85 : decode cX6_signsWithoutEffect 85 = .ok (.aload_n 0, 1) := by decide +kernel
theorem dX6_signsWithoutEffect_86 : decode cX6_signsWithoutEffect 86 = .ok (.iload_n 1, 1) := by decide +kernel
theorem dX6_signsWithoutEffect_87 : decode cX6_signsWithoutEffect 87 = .ok (.iload 4, 2) := by decide +kernel
theorem dX6_signsWithoutEffect_89 : decode cX6_signsWithoutEffect 89 = .ok (.iload 5, 2) := by decide +kernel
theorem dX6_signsWithoutEffect_91 : decode cX6_signsWithoutEffect 91 = .ok (.invokevirtual 51, 3) := by decide +kernel
theorem dX6_signsWithoutEffect_94 : decode cX6_signsWithoutEffect 94 = .ok (.if_icmp .ne 7, 3) := by decide +kernel
theorem dX6_signsWithoutEffect_97 : decode cX6_signsWithoutEffect 97 = .ok (.iconst 1, 1) := by decide +kernel
theorem dX6_signsWithoutEffect_98 : decode cX6_signsWithoutEffect 98 = .ok (.goto 4, 3) := by decide +kernel
theorem dX6_signsWithoutEffect_101 : decode cX6_signsWithoutEffect 101 = .ok (.iconst 0, 1) := by decide +kernel
theorem dX6_signsWithoutEffect_102 : decode cX6_signsWithoutEffect 102 = .ok (.iadd, 1) := by decide +kernel
theorem dX6_signsWithoutEffect_103 : decode cX6_signsWithoutEffect 103 = .ok (.istore_n 3, 1) := by decide +kernel
theorem dX6_signsWithoutEffect_104 : decode cX6_signsWithoutEffect 104 = .ok (.iinc 5 1, 3) := by decide +kernel
theorem dX6_signsWithoutEffect_107 : decode cX6_signsWithoutEffect 107 = .ok (.goto (-83), 3) := by decide +kernel
theorem dX6_signsWithoutEffect_110 : decode cX6_signsWithoutEffect 110 = .ok (.iinc 4 1, 3) := by decide +kernel
theorem dX6_signsWithoutEffect_113 : decode cX6_signsWithoutEffect 113 = .ok (.goto (-98), 3) := by decide +kernel
theorem dX6_signsWithoutEffect_116 : decode cX6_signsWithoutEffect 116 = .ok (.iload_n 3, 1) := by decide +kernel
theorem dX6_signsWithoutEffect_117 : decode cX6_signsWithoutEffect 117 = .ok (.ireturn, 1) := by decide +kernel
theorem dX6_crossedTicks_0 : decode cX6_crossedTicks 0 = .ok (.aload_n 0, 1) := by decide +kernel
theorem dX6_crossedTicks_1 : decode cX6_crossedTicks 1 = .ok (.getfield 18, 3) := by decide +kernel
theorem dX6_crossedTicks_4 : decode cX6_crossedTicks 4 = .ok (.iload_n 1, 1) := by decide +kernel
theorem dX6_crossedTicks_5 : decode cX6_crossedTicks 5 = .ok (.invokevirtual 108, 3) := by decide +kernel
theorem dX6_crossedTicks_8 : decode cX6_crossedTicks 8 = .ok (.istore_n 2, 1) := by decide +kernel
theorem dX6_crossedTicks_9 : decode cX6_crossedTicks 9 = .ok (.iconst 0, 1) := by decide +kernel
theorem dX6_crossedTicks_10 : decode cX6_crossedTicks 10 = .ok (.istore_n 3, 1) := by decide +kernel
theorem dX6_crossedTicks_11 : decode cX6_crossedTicks 11 = .ok (.iconst 0, 1) := by decide +kernel
theorem dX6_crossedTicks_12 : decode cX6_crossedTicks 12 = .ok (.istore 4, 2) := by decide +kernel
theorem dX6_crossedTicks_14 : decode cX6_crossedTicks 14 = .ok (.iconst 0, 1) := by decide +kernel
theorem dX6_crossedTicks_15 : decode cX6_crossedTicks 15 = .ok (.istore 5, 2) := by decide +kernel
theorem dX6_crossedTicks_17 : decode cX6_crossedTicks 17 = .ok (.iload 5, 2) := by decide +kernel
theorem dX6_crossedTicks_19 : decode cX6_crossedTicks 19 = .ok (.aload_n 0, 1) := by decide +kernel
theorem dX6_crossedTicks_20 : decode cX6_crossedTicks 20 = .ok (.getfield 18, 3) := by decide +kernel
theorem dX6_crossedTicks_23 : decode cX6_crossedTicks 23 = .ok (.iload_n 1, 1) := by decide +kernel
theorem dX6_crossedTicks_24 : decode cX6_crossedTicks 24 = .ok (.iconst 0, 1) := by decide +kernel
theorem dX6_crossedTicks_25 : decode cX6_crossedTicks 25 = .ok (.invokevirtual 65, 3) := by decide +kernel
theorem dX6_crossedTicks_28 : decode cX6_crossedTicks 28 = .ok (.if_icmp .ge 68, 3) := by decide +kernel
theorem dX6_crossedTicks_31 : decode cX6_crossedTicks 31 = .ok (.aload_n 0, 1) := by decide +kernel
theorem dX6_crossedTicks_32 : decode cX6_crossedTicks 32 = .ok (.getfield 18, 3) := by decide +kernel
theorem dX6_crossedTicks_35 : decode cX6_crossedTicks 35 = .ok (.iload_n 1, 1) := by decide +kernel
theorem dX6_crossedTicks_36 : decode cX6_crossedTicks 36 = .ok (.iconst 0, 1) := by decide +kernel
theorem dX6_crossedTicks_37 : decode cX6_crossedTicks 37 = .ok (.iload 5, 2) := by decide +kernel
theorem dX6_crossedTicks_39 : decode cX6_crossedTicks 39 = .ok (.invokevirtual 26, 3) := by decide +kernel
theorem dX6_crossedTicks_42 : decode cX6_crossedTicks 42 = .ok (.istore 6, 2) := by decide +kernel
theorem dX6_crossedTicks_44 : decode cX6_crossedTicks 44 = .ok (.iload 4, 2) := by decide +kernel
theorem dX6_crossedTicks_46 : decode cX6_crossedTicks 46 = .ok (.iload 6, 2) := by decide +kernel
theorem dX6_crossedTicks_48 : decode cX6_crossedTicks 48 = .ok (.invokestatic 38, 3) := by decide +kernel
theorem dX6_crossedTicks_51 : decode cX6_crossedTicks 51 = .ok (.iadd, 1) := by decide +kernel
theorem dX6_crossedTicks_52 : decode cX6_crossedTicks 52 = .ok (.istore 7, 2) := by decide +kernel
theorem dX6_crossedTicks_54 : decode cX6_crossedTicks 54 = .ok (.iload 6, 2) := by decide +kernel
theorem dX6_crossedTicks_56 : decode cX6_crossedTicks 56 = .ok (.invokestatic 105, 3) := by decide +kernel
theorem dX6_crossedTicks_59 : decode cX6_crossedTicks 59 = .ok (.ifCond .eq 27, 3) := by decide +kernel
theorem dX6_crossedTicks_62 : decode cX6_crossedTicks 62 = .ok (.iload_n 3, 1) := by decide +kernel
theorem dX6_crossedTicks_63 : decode cX6_crossedTicks 63 = .ok (.aload_n 0, 1) := by decide +kernel
theorem dX6_crossedTicks_64 : decode cX6_crossedTicks 64 = .ok (.iload_n 1, 1) := by decide +kernel
theorem dX6_crossedTicks_65 : decode cX6_crossedTicks 65 = .ok (.aload_n 0, 1) := by decide +kernel
theorem dX6_crossedTicks_66 : decode cX6_crossedTicks 66 = .ok (.iload_n 1, 1) := by decide +kernel
theorem dX6_crossedTicks_67 : decode cX6_crossedTicks 67 = .ok (.iconst 0, 1) := by decide +kernel
theorem dX6_crossedTicks_68 : decode cX6_crossedTicks 68 = .ok (.iload 5, 2) := by decide +kernel
theorem dX6_crossedTicks_70 : decode cX6_crossedTicks 70 = .ok (.invokevirtual 111, 3) := by decide +kernel
theorem dX6_crossedTicks_73 : decode cX6_crossedTicks 73 = .ok (.iload 4, 2) := by decide +kernel
theorem dX6_crossedTicks_75 : decode cX6_crossedTicks 75 = .ok (.iload 7, 2) := by decide +kernel
theorem dX6_crossedTicks_77 : decode cX6_crossedTicks 77 = .ok (.iload_n 2, 1) := by decide +kernel
theorem dX6_crossedTicks_78 : decode cX6_crossedTicks 78 = .ok (.invokestatic 114, 3) := by decide +kernel
theorem dX6_crossedTicks_81 : decode cX6_crossedTicks 81 = .ok (.invokevirtual 119, 3) := by decide +kernel
theorem dX6_crossedTicks_84 : decode cX6_crossedTicks 84 = .ok (.iadd, 1) := by decide +kernel
theorem dX6_crossedTicks_85 : decode cX6_crossedTicks 85 = .ok (.istore_n 3, 1) := by decide +kernel
theorem dX6_crossedTicks_86 : decode cX6_crossedTicks 86 = .ok (.iload 7, 2) := by decide +kernel
theorem dX6_crossedTicks_88 : decode cX6_crossedTicks 88 = .ok (.istore 4, 2) := by decide +kernel
theorem dX6_crossedTicks_90 : decode cX6_crossedTicks 90 = .ok (.iinc 5 1, 3) := by decide +kernel
theorem dX6_crossedTicks_93 : decode cX6_crossedTicks 93 = .ok (.goto (-76), 3) := by decide +kernel
theorem dX6_crossedTicks_96 : decode cX6_crossedTicks 96 = .ok (.iload_n 3, 1) := by decide +kernel
theorem dX6_crossedTicks_97 : decode cX6_crossedTicks 97 = .ok (.ireturn, 1) := by decide +kernel
theorem dX6_ticksAbove_0 : decode cX6_ticksAbove 0 = .ok (.iconst 0, 1) := by decide +kernel
theorem dX6_ticksAbove_1 : decode cX6_ticksAbove 1 = .ok (.istore 5, 2) := by decide +kernel
theorem dX6_ticksAbove_3 : decode cX6_ticksAbove 3 = .ok (.iconst 0, 1) := by decide +kernel
theorem dX6_ticksAbove_4 : decode cX6_ticksAbove 4 = .ok (.istore 6, 2) := by decide +kernel
theorem dX6_ticksAbove_6 : decode cX6_ticksAbove 6 = .ok (.iconst 0, 1) := by decide +kernel
theorem dX6_ticksAbove_7 : decode cX6_ticksAbove 7 = .ok (.istore 7, 2) := by decide +kernel
theorem dX6_ticksAbove_9 : decode cX6_ticksAbove 9 = .ok (.iload 7, 2) := by decide +kernel
theorem dX6_ticksAbove_11 : decode cX6_ticksAbove 11 = .ok (.aload_n 0, 1) := by decide +kernel
theorem dX6_ticksAbove_12 : decode cX6_ticksAbove 12 = .ok (.getfield 18, 3) := by decide +kernel
theorem dX6_ticksAbove_15 : decode cX6_ticksAbove 15 = .ok (.iload_n 1, 1) := by decide +kernel
theorem dX6_ticksAbove_16 : decode cX6_ticksAbove 16 = .ok (.iconst 1, 1) := by decide +kernel
theorem dX6_ticksAbove_17 : decode cX6_ticksAbove 17 = .ok (.invokevirtual 65, 3) := by decide +kernel
theorem dX6_ticksAbove_20 : decode cX6_ticksAbove 20 = .ok (.if_icmp .ge 79, 3) := by decide +kernel
theorem dX6_ticksAbove_23 : decode cX6_ticksAbove 23 = .ok (.aload_n 0, 1) := by decide +kernel
theorem dX6_ticksAbove_24 : decode cX6_ticksAbove 24 = .ok (.getfield 18, 3) := by decide +kernel
theorem dX6_ticksAbove_27 : decode cX6_ticksAbove 27 = .ok (.iload_n 1, 1) := by decide +kernel
theorem dX6_ticksAbove_28 : decode cX6_ticksAbove 28 = .ok (.iconst 1, 1) := by decide +kernel
theorem dX6_ticksAbove_29 : decode cX6_ticksAbove 29 = .ok (.iload 7, 2) := by decide +kernel
theorem dX6_ticksAbove_31 : decode cX6_ticksAbove 31 = .ok (.invokevirtual 26, 3) := by decide +kernel
theorem dX6_ticksAbove_34 : decode cX6_ticksAbove 34 = .ok (.istore 8, 2) := by decide +kernel
theorem dX6_ticksAbove_36 : decode cX6_ticksAbove 36 = .ok (.iload 6, 2) := by decide +kernel
theorem dX6_ticksAbove_38 : decode cX6_ticksAbove 38 = .ok (.iload 8, 2) := by decide +kernel
theorem dX6_ticksAbove_40 : decode cX6_ticksAbove 40 = .ok (.invokestatic 38, 3) := by decide +kernel
theorem dX6_ticksAbove_43 : decode cX6_ticksAbove 43 = .ok (.iadd, 1) := by decide +kernel
theorem dX6_ticksAbove_44 : decode cX6_ticksAbove 44 = .ok (.istore 9, 2) := by decide +kernel
theorem dX6_ticksAbove_46 : decode cX6_ticksAbove 46 = .ok (.iload 8, 2) := by decide +kernel
theorem dX6_ticksAbove_48 : decode cX6_ticksAbove 48 = .ok (.invokestatic 105, 3) := by decide +kernel
theorem dX6_ticksAbove_51 : decode cX6_ticksAbove 51 = .ok (.ifCond .eq 38, 3) := by decide +kernel
theorem dX6_ticksAbove_54 : decode cX6_ticksAbove 54 = .ok (.aload_n 0, 1) := by decide +kernel
theorem dX6_ticksAbove_55 : decode cX6_ticksAbove 55 = .ok (.iload_n 1, 1) := by decide +kernel
theorem dX6_ticksAbove_56 : decode cX6_ticksAbove 56 = .ok (.iconst 1, 1) := by decide +kernel
theorem dX6_ticksAbove_57 : decode cX6_ticksAbove 57 = .ok (.iload 7, 2) := by decide +kernel
theorem dX6_ticksAbove_59 : decode cX6_ticksAbove 59 = .ok (.invokevirtual 111, 3) := by decide +kernel
theorem dX6_ticksAbove_62 : decode cX6_ticksAbove 62 = .ok (.iload_n 2, 1) := by decide +kernel
theorem dX6_ticksAbove_63 : decode cX6_ticksAbove 63 = .ok (.if_icmp .le 26, 3) := by decide +kernel
theorem dX6_ticksAbove_66 : decode cX6_ticksAbove 66 = .ok (.iload 5, 2) := by decide +kernel
theorem dX6_ticksAbove_68 : decode cX6_ticksAbove 68 = .ok (.iload 9, 2) := by decide +kernel
theorem dX6_ticksAbove_70 : decode cX6_ticksAbove 70 = .ok (.iload 4, 2) := by decide +kernel
theorem dX6_ticksAbove_72 : decode cX6_ticksAbove 72 = .ok (.invokestatic 114, 3) := by decide +kernel
theorem dX6_ticksAbove_75 : decode cX6_ticksAbove 75 = .ok (.iload 6, 2) := by decide +kernel
theorem dX6_ticksAbove_77 : decode cX6_ticksAbove 77 = .ok (.iload_n 3, 1) := by decide +kernel
theorem dX6_ticksAbove_78 : decode cX6_ticksAbove 78 = .ok (.invokestatic 123, 3) := by decide +kernel
theorem dX6_ticksAbove_81 : decode cX6_ticksAbove 81 = .ok (.isub, 1) := by decide +kernel
theorem dX6_ticksAbove_82 : decode cX6_ticksAbove 82 = .ok (.iconst 0, 1) := by decide +kernel
theorem dX6_ticksAbove_83 : decode cX6_ticksAbove 83 = .ok (.invokestatic 123, 3) := by decide +kernel
theorem dX6_ticksAbove_86 : decode cX6_ticksAbove 86 = .ok (.iadd, 1) := by decide +kernel
theorem dX6_ticksAbove_87 : decode cX6_ticksAbove 87 = .ok (.istore 5, 2) := by decide +kernel
theorem dX6_ticksAbove_89 : decode cX6_ticksAbove 89 = .ok (.iload 9, 2) := by decide +kernel
theorem dX6_ticksAbove_91 : decode cX6_ticksAbove 91 = .ok (.istore 6, 2) := by decide +kernel
theorem dX6_ticksAbove_93 : decode cX6_ticksAbove 93 = .ok (.iinc 7 1, 3) := by decide +kernel
theorem dX6_ticksAbove_96 : decode cX6_ticksAbove 96 = .ok (.goto (-87), 3) := by decide +kernel
theorem dX6_ticksAbove_99 : decode cX6_ticksAbove 99 = .ok (.iload 5, 2) := by decide +kernel
theorem dX6_ticksAbove_101 : decode cX6_ticksAbove 101 = .ok (.ireturn, 1) := by decide +kernel
theorem dX7_init_0 : decode cX7_init 0 = .ok (.aload_n 0, 1) := by decide +kernel
theorem dX7_init_1 : decode cX7_init 1 = .ok (.invokespecial 1, 3) := by decide +kernel
theorem dX7_init_4 : decode cX7_init 4 = .ok (.aload_n 0, 1) := by decide +kernel
theorem dX7_init_5 : decode cX7_init 5 = .ok (.sipush 600, 3) := by decide +kernel
theorem dX7_init_8 : decode cX7_init 8 = .ok (.newarray .byte, 2) := by decide +kernel
theorem dX7_init_10 : decode cX7_init 10 = .ok (.putfield 9, 3) := by decide +kernel
theorem dX7_init_13 : decode cX7_init 13 = .ok (.return_, 1) := by decide +kernel
theorem dX7_length_0 : decode cX7_length 0 = .ok (.aload_n 0, 1) := by decide +kernel
theorem dX7_length_1 : decode cX7_length 1 = .ok (.getfield 13, 3) := by decide +kernel
theorem dX7_length_4 : decode cX7_length 4 = .ok (.ireturn, 1) := by decide +kernel
theorem dX7_at_0 : decode cX7_at 0 = .ok (.iload_n 1, 1) := by decide +kernel
theorem dX7_at_1 : decode cX7_at 1 = .ok (.ifCond .lt 27, 3) := by decide +kernel
theorem dX7_at_4 : decode cX7_at 4 = .ok (.iload_n 1, 1) := by decide +kernel
theorem dX7_at_5 : decode cX7_at 5 = .ok (.aload_n 0, 1) := by decide +kernel
theorem dX7_at_6 : decode cX7_at 6 = .ok (.getfield 13, 3) := by decide +kernel
theorem dX7_at_9 : decode cX7_at 9 = .ok (.if_icmp .ge 19, 3) := by decide +kernel
theorem dX7_at_12 : decode cX7_at 12 = .ok (.iload_n 1, 1) := by decide +kernel
theorem dX7_at_13 : decode cX7_at 13 = .ok (.sipush 600, 3) := by decide +kernel
theorem dX7_at_16 : decode cX7_at 16 = .ok (.if_icmp .ge 12, 3) := by decide +kernel
theorem dX7_at_19 : decode cX7_at 19 = .ok (.aload_n 0, 1) := by decide +kernel
theorem dX7_at_20 : decode cX7_at 20 = .ok (.getfield 9, 3) := by decide +kernel
theorem dX7_at_23 : decode cX7_at 23 = .ok (.iload_n 1, 1) := by decide +kernel
theorem dX7_at_24 : decode cX7_at 24 = .ok (.baload, 1) := by decide +kernel
theorem dX7_at_25 : decode cX7_at 25 = .ok (.goto 4, 3) := by decide +kernel
theorem dX7_at_28 : decode cX7_at 28 = .ok (.iconst 0, 1) := by decide +kernel
theorem dX7_at_29 : decode cX7_at 29 = .ok (.ireturn, 1) := by decide +kernel
theorem dX7_append_0 : decode cX7_append 0 = .ok (.aload_n 0, 1) := by decide +kernel
theorem dX7_append_1 : decode cX7_append 1 = .ok (.getfield 13, 3) := by decide +kernel
theorem dX7_append_4 : decode cX7_append 4 = .ok (.sipush 600, 3) := by decide +kernel
theorem dX7_append_7 : decode cX7_append 7 = .ok (.if_icmp .ge 24, 3) := by decide +kernel
theorem dX7_append_10 : decode cX7_append 10 = .ok (.aload_n 0, 1) := by decide +kernel
theorem dX7_append_11 : decode cX7_append 11 = .ok (.getfield 9, 3) := by decide +kernel
theorem dX7_append_14 : decode cX7_append 14 = .ok (.aload_n 0, 1) := by decide +kernel
theorem dX7_append_15 : decode cX7_append 15 = .ok (.getfield 13, 3) := by decide +kernel
theorem dX7_append_18 : decode cX7_append 18 = .ok (.iload_n 1, 1) := by decide +kernel
theorem dX7_append_19 : decode cX7_append 19 = .ok (.i2b, 1) := by decide +kernel
theorem dX7_append_20 : decode cX7_append 20 = .ok (.bastore, 1) := by decide +kernel
theorem dX7_append_21 : decode cX7_append 21 = .ok (.aload_n 0, 1) := by decide +kernel
theorem dX7_append_22 : decode cX7_append 22 = .ok (.dup, 1) := by decide +kernel
theorem dX7_append_23 : decode cX7_append 23 = .ok (.getfield 13, 3) := by decide +kernel
theorem dX7_append_26 : decode cX7_append 26 = .ok (.iconst 1, 1) := by decide +kernel
theorem dX7_append_27 : decode cX7_append 27 = .ok (.iadd, 1) := by decide +kernel
theorem dX7_append_28 : decode cX7_append 28 = .ok (.putfield 13, 3) := by decide +kernel
theorem dX7_append_31 : decode cX7_append 31 = .ok (.return_, 1) := by decide +kernel
theorem dX7_shorten_0 : decode cX7_shorten 0 = .ok (.aload_n 0, 1) := by decide +kernel
theorem dX7_shorten_1 : decode cX7_shorten 1 = .ok (.aload_n 0, 1) := by decide +kernel
theorem dX7_shorten_2 : decode cX7_shorten 2 = .ok (.getfield 13, 3) := by decide +kernel
theorem dX7_shorten_5 : decode cX7_shorten 5 = .ok (.iload_n 1, 1) := by decide +kernel
theorem dX7_shorten_6 : decode cX7_shorten 6 = .ok (.isub, 1) := by decide +kernel
theorem dX7_shorten_7 : decode cX7_shorten 7 = .ok (.iconst 0, 1) := by decide +kernel
theorem dX7_shorten_8 : decode cX7_shorten 8 = .ok (.invokestatic 17, 3) := by decide +kernel
theorem dX7_shorten_11 : decode cX7_shorten 11 = .ok (.putfield 13, 3) := by decide +kernel
theorem dX7_shorten_14 : decode cX7_shorten 14 = .ok (.return_, 1) := by decide +kernel
theorem dX8_ofSign_0 : decode cX8_ofSign 0 = .ok (.iload_n 0, 1) := by decide +kernel
theorem dX8_ofSign_1 : decode cX8_ofSign 1 = .ok (.lookupswitch 33 #[(1, 27), (2, 30)], 27) := by decide +kernel
theorem dX8_ofSign_28 : decode cX8_ofSign 28 = .ok (.ldc 9, 2) := by decide +kernel
theorem dX8_ofSign_30 : decode cX8_ofSign 30 = .ok (.areturn, 1) := by decide +kernel
theorem dX8_ofSign_31 : decode cX8_ofSign 31 = .ok (.ldc 11, 2) := by decide +kernel
theorem dX8_ofSign_33 : decode cX8_ofSign 33 = .ok (.areturn, 1) := by decide +kernel
theorem dX8_ofSign_34 : decode cX8_ofSign 34 = .ok (.ldc 13, 2) := by decide +kernel
theorem dX8_ofSign_36 : decode cX8_ofSign 36 = .ok (.areturn, 1) := by decide +kernel
theorem dX8_ofLength_0 : decode cX8_ofLength 0 = .ok (.iload_n 0, 1) := by decide +kernel
theorem dX8_ofLength_1 : decode cX8_ofLength 1 = .ok (.tableswitch 43 0 3 #[31, 34, 37, 40], 31) := by decide +kernel
theorem dX8_ofLength_32 : decode cX8_ofLength 32 = .ok (.ldc 15, 2) := by decide +kernel
theorem dX8_ofLength_34 : decode cX8_ofLength 34 = .ok (.areturn, 1) := by decide +kernel
theorem dX8_ofLength_35 : decode cX8_ofLength 35 = .ok (.ldc 17, 2) := by decide +kernel
theorem dX8_ofLength_37 : decode cX8_ofLength 37 = .ok (.areturn, 1) := by decide +kernel
theorem dX8_ofLength_38 : decode cX8_ofLength 38 = .ok (.ldc 19, 2) := by decide +kernel
theorem dX8_ofLength_40 : decode cX8_ofLength 40 = .ok (.areturn, 1) := by decide +kernel
theorem dX8_ofLength_41 : decode cX8_ofLength 41 = .ok (.ldc 21, 2) := by decide +kernel
theorem dX8_ofLength_43 : decode cX8_ofLength 43 = .ok (.areturn, 1) := by decide +kernel
theorem dX8_ofLength_44 : decode cX8_ofLength 44 = .ok (.ldc 23, 2) := by decide +kernel
theorem dX8_ofLength_46 : decode cX8_ofLength 46 = .ok (.areturn, 1) := by decide +kernel
theorem dX8_letterOf_0 : decode cX8_letterOf 0 = .ok (.iload_n 0, 1) := by decide +kernel
theorem dX8_letterOf_1 : decode cX8_letterOf 1 = .ok (.ifCond .lt 21, 3) := by decide +kernel
theorem dX8_letterOf_4 : decode cX8_letterOf 4 = .ok (.iload_n 0, 1) := by decide +kernel
theorem dX8_letterOf_5 : decode cX8_letterOf 5 = .ok (.ldc 25, 2) := by decide +kernel
theorem dX8_letterOf_7 : decode cX8_letterOf 7 = .ok (.invokevirtual 27, 3) := by decide +kernel
theorem dX8_letterOf_10 : decode cX8_letterOf 10 = .ok (.if_icmp .ge 12, 3) := by decide +kernel
theorem dX8_letterOf_13 : decode cX8_letterOf 13 = .ok (.ldc 25, 2) := by decide +kernel
theorem dX8_letterOf_15 : decode cX8_letterOf 15 = .ok (.iload_n 0, 1) := by decide +kernel
theorem dX8_letterOf_16 : decode cX8_letterOf 16 = .ok (.invokevirtual 33, 3) := by decide +kernel
theorem dX8_letterOf_19 : decode cX8_letterOf 19 = .ok (.goto 5, 3) := by decide +kernel
theorem dX8_letterOf_22 : decode cX8_letterOf 22 = .ok (.bipush 32, 2) := by decide +kernel
theorem dX8_letterOf_24 : decode cX8_letterOf 24 = .ok (.ireturn, 1) := by decide +kernel
theorem dX9_init_0 : decode cX9_init 0 = .ok (.aload_n 0, 1) := by decide +kernel
theorem dX9_init_1 : decode cX9_init 1 = .ok (.invokespecial 1, 3) := by decide +kernel
theorem dX9_init_4 : decode cX9_init 4 = .ok (.aload_n 0, 1) := by decide +kernel
theorem dX9_init_5 : decode cX9_init 5 = .ok (.new 7, 3) := by decide +kernel
theorem dX9_init_8 : decode cX9_init 8 = .ok (.dup, 1) := by decide +kernel
theorem dX9_init_9 : decode cX9_init 9 = .ok (.invokespecial 9, 3) := by decide +kernel
theorem dX9_init_12 : decode cX9_init 12 = .ok (.putfield 10, 3) := by decide +kernel
theorem dX9_init_15 : decode cX9_init 15 = .ok (.aload_n 0, 1) := by decide +kernel
theorem dX9_init_16 : decode cX9_init 16 = .ok (.new 16, 3) := by decide +kernel
theorem dX9_init_19 : decode cX9_init 19 = .ok (.dup, 1) := by decide +kernel
theorem dX9_init_20 : decode cX9_init 20 = .ok (.invokespecial 18, 3) := by decide +kernel
theorem dX9_init_23 : decode cX9_init 23 = .ok (.putfield 19, 3) := by decide +kernel
theorem dX9_init_26 : decode cX9_init 26 = .ok (.aload_n 0, 1) := by decide +kernel
theorem dX9_init_27 : decode cX9_init 27 = .ok (.new 23, 3) := by decide +kernel
theorem dX9_init_30 : decode cX9_init 30 = .ok (.dup, 1) := by decide +kernel
theorem dX9_init_31 : decode cX9_init 31 = .ok (.invokespecial 25, 3) := by decide +kernel
theorem dX9_init_34 : decode cX9_init 34 = .ok (.putfield 26, 3) := by decide +kernel
theorem dX9_init_37 : decode cX9_init 37 = .ok (.aload_n 0, 1) := by decide +kernel
theorem dX9_init_38 : decode cX9_init 38 = .ok (.new 30, 3) := by decide +kernel
theorem dX9_init_41 : decode cX9_init 41 = .ok (.dup, 1) := by decide +kernel
theorem dX9_init_42 : decode cX9_init 42 = .ok (.invokespecial 32, 3) := by decide +kernel
theorem dX9_init_45 : decode cX9_init 45 = .ok (.putfield 33, 3) := by decide +kernel
theorem dX9_init_48 : decode cX9_init 48 = .ok (.aload_n 0, 1) := by decide +kernel
theorem dX9_init_49 : decode cX9_init 49 = .ok (.new 37, 3) := by decide +kernel
theorem dX9_init_52 : decode cX9_init 52 = .ok (.dup, 1) := by decide +kernel
theorem dX9_init_53 : decode cX9_init 53 = .ok (.aload_n 0, 1) := by decide +kernel
theorem dX9_init_54 : decode cX9_init 54 = .ok (.getfield 26, 3) := by decide +kernel
theorem dX9_init_57 : decode cX9_init 57 = .ok (.invokespecial 39, 3) := by decide +kernel
theorem dX9_init_60 : decode cX9_init 60 = .ok (.putfield 42, 3) := by decide +kernel
theorem dX9_init_63 : decode cX9_init 63 = .ok (.aload_n 0, 1) := by decide +kernel
theorem dX9_init_64 : decode cX9_init 64 = .ok (.new 46, 3) := by decide +kernel
theorem dX9_init_67 : decode cX9_init 67 = .ok (.dup, 1) := by decide +kernel
theorem dX9_init_68 : decode cX9_init 68 = .ok (.aload_n 0, 1) := by decide +kernel
theorem dX9_init_69 : decode cX9_init 69 = .ok (.getfield 10, 3) := by decide +kernel
theorem dX9_init_72 : decode cX9_init 72 = .ok (.invokespecial 48, 3) := by decide +kernel
theorem dX9_init_75 : decode cX9_init 75 = .ok (.putfield 51, 3) := by decide +kernel
theorem dX9_init_78 : decode cX9_init 78 = .ok (.aload_n 0, 1) := by decide +kernel
theorem dX9_init_79 : decode cX9_init 79 = .ok (.new 55, 3) := by decide +kernel
theorem dX9_init_82 : decode cX9_init 82 = .ok (.dup, 1) := by decide +kernel
theorem dX9_init_83 : decode cX9_init 83 = .ok (.invokespecial 57, 3) := by decide +kernel
theorem dX9_init_86 : decode cX9_init 86 = .ok (.putfield 58, 3) := by decide +kernel
theorem dX9_init_89 : decode cX9_init 89 = .ok (.return_, 1) := by decide +kernel
theorem dX9_addMeasure_0 : decode cX9_addMeasure 0 = .ok (.aload_n 0, 1) := by decide +kernel
theorem dX9_addMeasure_1 : decode cX9_addMeasure 1 = .ok (.getfield 10, 3) := by decide +kernel
theorem dX9_addMeasure_4 : decode cX9_addMeasure 4 = .ok (.invokevirtual 62, 3) := by decide +kernel
theorem dX9_addMeasure_7 : decode cX9_addMeasure 7 = .ok (.ifCond .eq 13, 3) := by decide +kernel
theorem dX9_addMeasure_10 : decode cX9_addMeasure 10 = .ok (.new 66, 3) := by decide +kernel
theorem dX9_addMeasure_13 : decode cX9_addMeasure 13 = .ok (.dup, 1) := by decide +kernel
theorem dX9_addMeasure_14 : decode cX9_addMeasure 14 = .ok (.ldc 68, 2) := by decide +kernel
theorem dX9_addMeasure_16 : decode cX9_addMeasure 16 = .ok (.invokespecial 70, 3) := by decide +kernel
theorem dX9_addMeasure_19 : decode cX9_addMeasure 19 = .ok (.athrow, 1) := by decide +kernel
theorem dX9_addMeasure_20 : decode cX9_addMeasure 20 = .ok (.aload_n 0, 1) := by decide +kernel
theorem dX9_addMeasure_21 : decode cX9_addMeasure 21 = .ok (.getfield 19, 3) := by decide +kernel
theorem dX9_addMeasure_24 : decode cX9_addMeasure 24 = .ok (.aload_n 0, 1) := by decide +kernel
theorem dX9_addMeasure_25 : decode cX9_addMeasure 25 = .ok (.getfield 10, 3) := by decide +kernel
theorem dX9_addMeasure_28 : decode cX9_addMeasure 28 = .ok (.invokevirtual 73, 3) := by decide +kernel
theorem dX9_addMeasure_31 : decode cX9_addMeasure 31 = .ok (.aload_n 0, 1) := by decide +kernel
theorem dX9_addMeasure_32 : decode cX9_addMeasure 32 = .ok (.getfield 10, 3) := by decide +kernel
theorem dX9_addMeasure_35 : decode cX9_addMeasure 35 = .ok (.invokevirtual 76, 3) := by decide +kernel
theorem dX9_addMeasure_38 : decode cX9_addMeasure 38 = .ok (.aload_n 0, 1) := by decide +kernel
theorem dX9_addMeasure_39 : decode cX9_addMeasure 39 = .ok (.invokevirtual 79, 3) := by decide +kernel
theorem dX9_addMeasure_42 : decode cX9_addMeasure 42 = .ok (.aload_n 0, 1) := by decide +kernel
theorem dX9_addMeasure_43 : decode cX9_addMeasure 43 = .ok (.getfield 10, 3) := by decide +kernel
theorem dX9_addMeasure_46 : decode cX9_addMeasure 46 = .ok (.invokevirtual 82, 3) := by decide +kernel
theorem dX9_addMeasure_49 : decode cX9_addMeasure 49 = .ok (.iconst 1, 1) := by decide +kernel
theorem dX9_addMeasure_50 : decode cX9_addMeasure 50 = .ok (.isub, 1) := by decide +kernel
theorem dX9_addMeasure_51 : decode cX9_addMeasure 51 = .ok (.ireturn, 1) := by decide +kernel
theorem dX9_removeMeasure_0 : decode cX9_removeMeasure 0 = .ok (.aload_n 0, 1) := by decide +kernel
theorem dX9_removeMeasure_1 : decode cX9_removeMeasure 1 = .ok (.iload_n 1, 1) := by decide +kernel
theorem dX9_removeMeasure_2 : decode cX9_removeMeasure 2 = .ok (.invokevirtual 86, 3) := by decide +kernel
theorem dX9_removeMeasure_5 : decode cX9_removeMeasure 5 = .ok (.aload_n 0, 1) := by decide +kernel
theorem dX9_removeMeasure_6 : decode cX9_removeMeasure 6 = .ok (.getfield 19, 3) := by decide +kernel
theorem dX9_removeMeasure_9 : decode cX9_removeMeasure 9 = .ok (.aload_n 0, 1) := by decide +kernel
theorem dX9_removeMeasure_10 : decode cX9_removeMeasure 10 = .ok (.getfield 10, 3) := by decide +kernel
theorem dX9_removeMeasure_13 : decode cX9_removeMeasure 13 = .ok (.invokevirtual 73, 3) := by decide +kernel
theorem dX9_removeMeasure_16 : decode cX9_removeMeasure 16 = .ok (.aload_n 0, 1) := by decide +kernel
theorem dX9_removeMeasure_17 : decode cX9_removeMeasure 17 = .ok (.getfield 10, 3) := by decide +kernel
theorem dX9_removeMeasure_20 : decode cX9_removeMeasure 20 = .ok (.iload_n 1, 1) := by decide +kernel
theorem dX9_removeMeasure_21 : decode cX9_removeMeasure 21 = .ok (.invokevirtual 90, 3) := by decide +kernel
theorem dX9_removeMeasure_24 : decode cX9_removeMeasure 24 = .ok (.aload_n 0, 1) := by decide +kernel
theorem dX9_removeMeasure_25 : decode cX9_removeMeasure 25 = .ok (.invokevirtual 79, 3) := by decide +kernel
theorem dX9_removeMeasure_28 : decode cX9_removeMeasure 28 = .ok (.aload_n 0, 1) := by decide +kernel
theorem dX9_removeMeasure_29 : decode cX9_removeMeasure 29 = .ok (.getfield 10, 3) := by decide +kernel
theorem dX9_removeMeasure_32 : decode cX9_removeMeasure 32 = .ok (.invokevirtual 82, 3) := by decide +kernel
theorem dX9_removeMeasure_35 : decode cX9_removeMeasure 35 = .ok (.ireturn, 1) := by decide +kernel
theorem dX9_set_0 : decode cX9_set 0 = .ok (.aload_n 0, 1) := by decide +kernel
theorem dX9_set_1 : decode cX9_set 1 = .ok (.iload_n 1, 1) := by decide +kernel
theorem dX9_set_2 : decode cX9_set 2 = .ok (.invokevirtual 86, 3) := by decide +kernel
theorem dX9_set_5 : decode cX9_set 5 = .ok (.iload_n 2, 1) := by decide +kernel
theorem dX9_set_6 : decode cX9_set 6 = .ok (.iload_n 3, 1) := by decide +kernel
theorem dX9_set_7 : decode cX9_set 7 = .ok (.invokestatic 93, 3) := by decide +kernel
theorem dX9_set_10 : decode cX9_set 10 = .ok (.ifCond .ne 13, 3) := by decide +kernel
theorem dX9_set_13 : decode cX9_set 13 = .ok (.new 97, 3) := by decide +kernel
theorem dX9_set_16 : decode cX9_set 16 = .ok (.dup, 1) := by decide +kernel
theorem dX9_set_17 : decode cX9_set 17 = .ok (.ldc 99, 2) := by decide +kernel
theorem dX9_set_19 : decode cX9_set 19 = .ok (.invokespecial 101, 3) := by decide +kernel
theorem dX9_set_22 : decode cX9_set 22 = .ok (.athrow, 1) := by decide +kernel
theorem dX9_set_23 : decode cX9_set 23 = .ok (.aload_n 0, 1) := by decide +kernel
theorem dX9_set_24 : decode cX9_set 24 = .ok (.getfield 19, 3) := by decide +kernel
theorem dX9_set_27 : decode cX9_set 27 = .ok (.aload_n 0, 1) := by decide +kernel
theorem dX9_set_28 : decode cX9_set 28 = .ok (.getfield 10, 3) := by decide +kernel
theorem dX9_set_31 : decode cX9_set 31 = .ok (.invokevirtual 73, 3) := by decide +kernel
theorem dX9_set_34 : decode cX9_set 34 = .ok (.aload_n 0, 1) := by decide +kernel
theorem dX9_set_35 : decode cX9_set 35 = .ok (.getfield 10, 3) := by decide +kernel
theorem dX9_set_38 : decode cX9_set 38 = .ok (.iload_n 1, 1) := by decide +kernel
theorem dX9_set_39 : decode cX9_set 39 = .ok (.iload_n 2, 1) := by decide +kernel
theorem dX9_set_40 : decode cX9_set 40 = .ok (.invokevirtual 102, 3) := by decide +kernel
theorem dX9_set_43 : decode cX9_set 43 = .ok (.istore 4, 2) := by decide +kernel
theorem dX9_set_45 : decode cX9_set 45 = .ok (.aload_n 0, 1) := by decide +kernel
theorem dX9_set_46 : decode cX9_set 46 = .ok (.getfield 10, 3) := by decide +kernel
theorem dX9_set_49 : decode cX9_set 49 = .ok (.iload_n 1, 1) := by decide +kernel
theorem dX9_set_50 : decode cX9_set 50 = .ok (.iload_n 2, 1) := by decide +kernel
theorem dX9_set_51 : decode cX9_set 51 = .ok (.iload_n 3, 1) := by decide +kernel
theorem dX9_set_52 : decode cX9_set 52 = .ok (.invokevirtual 106, 3) := by decide +kernel
theorem dX9_set_55 : decode cX9_set 55 = .ok (.aload_n 0, 1) := by decide +kernel
theorem dX9_set_56 : decode cX9_set 56 = .ok (.invokevirtual 79, 3) := by decide +kernel
theorem dX9_set_59 : decode cX9_set 59 = .ok (.iload 4, 2) := by decide +kernel
theorem dX9_set_61 : decode cX9_set 61 = .ok (.ireturn, 1) := by decide +kernel
theorem dX9_addNote_0 : decode cX9_addNote 0 = .ok (.aload_n 0, 1) := by decide +kernel
theorem dX9_addNote_1 : decode cX9_addNote 1 = .ok (.iload_n 1, 1) := by decide +kernel
theorem dX9_addNote_2 : decode cX9_addNote 2 = .ok (.iload_n 2, 1) := by decide +kernel
theorem dX9_addNote_3 : decode cX9_addNote 3 = .ok (.invokevirtual 110, 3) := by decide +kernel
theorem dX9_addNote_6 : decode cX9_addNote 6 = .ok (.iload_n 3, 1) := by decide +kernel
theorem dX9_addNote_7 : decode cX9_addNote 7 = .ok (.iconst 0, 1) := by decide +kernel
theorem dX9_addNote_8 : decode cX9_addNote 8 = .ok (.bipush 62, 2) := by decide +kernel
theorem dX9_addNote_10 : decode cX9_addNote 10 = .ok (.invokestatic 116, 3) := by decide +kernel
theorem dX9_addNote_13 : decode cX9_addNote 13 = .ok (.iload 4, 2) := by decide +kernel
theorem dX9_addNote_15 : decode cX9_addNote 15 = .ok (.iconst 0, 1) := by decide +kernel
theorem dX9_addNote_16 : decode cX9_addNote 16 = .ok (.iconst 3, 1) := by decide +kernel
theorem dX9_addNote_17 : decode cX9_addNote 17 = .ok (.invokestatic 116, 3) := by decide +kernel
theorem dX9_addNote_20 : decode cX9_addNote 20 = .ok (.iload 5, 2) := by decide +kernel
theorem dX9_addNote_22 : decode cX9_addNote 22 = .ok (.iconst 0, 1) := by decide +kernel
theorem dX9_addNote_23 : decode cX9_addNote 23 = .ok (.bipush 9, 2) := by decide +kernel
theorem dX9_addNote_25 : decode cX9_addNote 25 = .ok (.invokestatic 116, 3) := by decide +kernel
theorem dX9_addNote_28 : decode cX9_addNote 28 = .ok (.aload_n 0, 1) := by decide +kernel
theorem dX9_addNote_29 : decode cX9_addNote 29 = .ok (.iload_n 1, 1) := by decide +kernel
theorem dX9_addNote_30 : decode cX9_addNote 30 = .ok (.iload_n 2, 1) := by decide +kernel
theorem dX9_addNote_31 : decode cX9_addNote 31 = .ok (.invokevirtual 119, 3) := by decide +kernel
theorem dX9_addNote_34 : decode cX9_addNote 34 = .ok (.aload_n 0, 1) := by decide +kernel
theorem dX9_addNote_35 : decode cX9_addNote 35 = .ok (.getfield 19, 3) := by decide +kernel
theorem dX9_addNote_38 : decode cX9_addNote 38 = .ok (.aload_n 0, 1) := by decide +kernel
theorem dX9_addNote_39 : decode cX9_addNote 39 = .ok (.getfield 10, 3) := by decide +kernel
theorem dX9_addNote_42 : decode cX9_addNote 42 = .ok (.invokevirtual 73, 3) := by decide +kernel
theorem dX9_addNote_45 : decode cX9_addNote 45 = .ok (.aload_n 0, 1) := by decide +kernel
theorem dX9_addNote_46 : decode cX9_addNote 46 = .ok (.getfield 10, 3) := by decide +kernel
theorem dX9_addNote_49 : decode cX9_addNote 49 = .ok (.iload_n 1, 1) := by decide +kernel
theorem dX9_addNote_50 : decode cX9_addNote 50 = .ok (.iload_n 2, 1) := by decide +kernel
theorem dX9_addNote_51 : decode cX9_addNote 51 = .ok (.iload_n 3, 1) := by decide +kernel
theorem dX9_addNote_52 : decode cX9_addNote 52 = .ok (.iload 4, 2) := by decide +kernel
theorem dX9_addNote_54 : decode cX9_addNote 54 = .ok (.iload 5, 2) := by decide +kernel
theorem dX9_addNote_56 : decode cX9_addNote 56 = .ok (.iload 6, 2) := by decide +kernel
theorem dX9_addNote_58 : decode cX9_addNote 58 = .ok (.invokestatic 122, 3) := by decide +kernel
theorem dX9_addNote_61 : decode cX9_addNote 61 = .ok (.invokevirtual 126, 3) := by decide +kernel
theorem dX9_addNote_64 : decode cX9_addNote 64 = .ok (.aload_n 0, 1) := by decide +kernel
theorem dX9_addNote_65 : decode cX9_addNote 65 = .ok (.invokevirtual 79, 3) := by decide +kernel
theorem dX9_addNote_68 : decode cX9_addNote 68 = .ok (.aload_n 0, 1) := by decide +kernel
theorem dX9_addNote_69 : decode cX9_addNote 69 = .ok (.getfield 10, 3) := by decide +kernel
theorem dX9_addNote_72 : decode cX9_addNote 72 = .ok (.iload_n 1, 1) := by decide +kernel
theorem dX9_addNote_73 : decode cX9_addNote 73 = .ok (.iload_n 2, 1) := by decide +kernel
theorem dX9_addNote_74 : decode cX9_addNote 74 = .ok (.invokevirtual 129, 3) := by decide +kernel
theorem dX9_addNote_77 : decode cX9_addNote 77 = .ok (.ireturn, 1) := by decide +kernel
theorem dX9_addRest_0 : decode cX9_addRest 0 = .ok (.aload_n 0, 1) := by decide +kernel
theorem dX9_addRest_1 : decode cX9_addRest 1 = .ok (.iload_n 1, 1) := by decide +kernel
theorem dX9_addRest_2 : decode cX9_addRest 2 = .ok (.iload_n 2, 1) := by decide +kernel
theorem dX9_addRest_3 : decode cX9_addRest 3 = .ok (.invokevirtual 110, 3) := by decide +kernel
theorem dX9_addRest_6 : decode cX9_addRest 6 = .ok (.iload_n 3, 1) := by decide +kernel
theorem dX9_addRest_7 : decode cX9_addRest 7 = .ok (.iconst 0, 1) := by decide +kernel
theorem dX9_addRest_8 : decode cX9_addRest 8 = .ok (.bipush 9, 2) := by decide +kernel
theorem dX9_addRest_10 : decode cX9_addRest 10 = .ok (.invokestatic 116, 3) := by decide +kernel
theorem dX9_addRest_13 : decode cX9_addRest 13 = .ok (.aload_n 0, 1) := by decide +kernel
theorem dX9_addRest_14 : decode cX9_addRest 14 = .ok (.iload_n 1, 1) := by decide +kernel
theorem dX9_addRest_15 : decode cX9_addRest 15 = .ok (.iload_n 2, 1) := by decide +kernel
theorem dX9_addRest_16 : decode cX9_addRest 16 = .ok (.invokevirtual 119, 3) := by decide +kernel
theorem dX9_addRest_19 : decode cX9_addRest 19 = .ok (.aload_n 0, 1) := by decide +kernel
theorem dX9_addRest_20 : decode cX9_addRest 20 = .ok (.getfield 19, 3) := by decide +kernel
theorem dX9_addRest_23 : decode cX9_addRest 23 = .ok (.aload_n 0, 1) := by decide +kernel
theorem dX9_addRest_24 : decode cX9_addRest 24 = .ok (.getfield 10, 3) := by decide +kernel
theorem dX9_addRest_27 : decode cX9_addRest 27 = .ok (.invokevirtual 73, 3) := by decide +kernel
theorem dX9_addRest_30 : decode cX9_addRest 30 = .ok (.aload_n 0, 1) := by decide +kernel
theorem dX9_addRest_31 : decode cX9_addRest 31 = .ok (.getfield 10, 3) := by decide +kernel
theorem dX9_addRest_34 : decode cX9_addRest 34 = .ok (.iload_n 1, 1) := by decide +kernel
theorem dX9_addRest_35 : decode cX9_addRest 35 = .ok (.iload_n 2, 1) := by decide +kernel
theorem dX9_addRest_36 : decode cX9_addRest 36 = .ok (.iload_n 3, 1) := by decide +kernel
theorem dX9_addRest_37 : decode cX9_addRest 37 = .ok (.invokestatic 132, 3) := by decide +kernel
theorem dX9_addRest_40 : decode cX9_addRest 40 = .ok (.invokevirtual 126, 3) := by decide +kernel
theorem dX9_addRest_43 : decode cX9_addRest 43 = .ok (.aload_n 0, 1) := by decide +kernel
theorem dX9_addRest_44 : decode cX9_addRest 44 = .ok (.invokevirtual 79, 3) := by decide +kernel
theorem dX9_addRest_47 : decode cX9_addRest 47 = .ok (.aload_n 0, 1) := by decide +kernel
theorem dX9_addRest_48 : decode cX9_addRest 48 = .ok (.getfield 10, 3) := by decide +kernel
theorem dX9_addRest_51 : decode cX9_addRest 51 = .ok (.iload_n 1, 1) := by decide +kernel
theorem dX9_addRest_52 : decode cX9_addRest 52 = .ok (.iload_n 2, 1) := by decide +kernel
theorem dX9_addRest_53 : decode cX9_addRest 53 = .ok (.invokevirtual 129, 3) := by decide +kernel
theorem dX9_addRest_56 : decode cX9_addRest 56 = .ok (.ireturn, 1) := by decide +kernel
theorem dX9_removeEvent_0 : decode cX9_removeEvent 0 = .ok (.aload_n 0, 1) := by decide +kernel
theorem dX9_removeEvent_1 : decode cX9_removeEvent 1 = .ok (.iload_n 1, 1) := by decide +kernel
theorem dX9_removeEvent_2 : decode cX9_removeEvent 2 = .ok (.iload_n 2, 1) := by decide +kernel
theorem dX9_removeEvent_3 : decode cX9_removeEvent 3 = .ok (.iload_n 3, 1) := by decide +kernel
theorem dX9_removeEvent_4 : decode cX9_removeEvent 4 = .ok (.invokevirtual 136, 3) := by decide +kernel
theorem dX9_removeEvent_7 : decode cX9_removeEvent 7 = .ok (.aload_n 0, 1) := by decide +kernel
theorem dX9_removeEvent_8 : decode cX9_removeEvent 8 = .ok (.getfield 19, 3) := by decide +kernel
theorem dX9_removeEvent_11 : decode cX9_removeEvent 11 = .ok (.aload_n 0, 1) := by decide +kernel
theorem dX9_removeEvent_12 : decode cX9_removeEvent 12 = .ok (.getfield 10, 3) := by decide +kernel
theorem dX9_removeEvent_15 : decode cX9_removeEvent 15 = .ok (.invokevirtual 73, 3) := by decide +kernel
theorem dX9_removeEvent_18 : decode cX9_removeEvent 18 = .ok (.aload_n 0, 1) := by decide +kernel
theorem dX9_removeEvent_19 : decode cX9_removeEvent 19 = .ok (.getfield 10, 3) := by decide +kernel
theorem dX9_removeEvent_22 : decode cX9_removeEvent 22 = .ok (.iload_n 1, 1) := by decide +kernel
theorem dX9_removeEvent_23 : decode cX9_removeEvent 23 = .ok (.iload_n 2, 1) := by decide +kernel
theorem dX9_removeEvent_24 : decode cX9_removeEvent 24 = .ok (.iload_n 3, 1) := by decide +kernel
theorem dX9_removeEvent_25 : decode cX9_removeEvent 25 = .ok (.invokevirtual 139, 3) := by decide +kernel
theorem dX9_removeEvent_28 : decode cX9_removeEvent 28 = .ok (.aload_n 0, 1) := by decide +kernel
theorem dX9_removeEvent_29 : decode cX9_removeEvent 29 = .ok (.invokevirtual 79, 3) := by decide +kernel
theorem dX9_removeEvent_32 : decode cX9_removeEvent 32 = .ok (.aload_n 0, 1) := by decide +kernel
theorem dX9_removeEvent_33 : decode cX9_removeEvent 33 = .ok (.getfield 10, 3) := by decide +kernel
theorem dX9_removeEvent_36 : decode cX9_removeEvent 36 = .ok (.iload_n 1, 1) := by decide +kernel
theorem dX9_removeEvent_37 : decode cX9_removeEvent 37 = .ok (.iload_n 2, 1) := by decide +kernel
theorem dX9_removeEvent_38 : decode cX9_removeEvent 38 = .ok (.invokevirtual 129, 3) := by decide +kernel
theorem dX9_removeEvent_41 : decode cX9_removeEvent 41 = .ok (.ireturn, 1) := by decide +kernel
theorem dX9_measure_0 : decode cX9_measure 0 = .ok (.aload_n 0, 1) := by decide +kernel
theorem dX9_measure_1 : decode cX9_measure 1 = .ok (.iload_n 1, 1) := by decide +kernel
theorem dX9_measure_2 : decode cX9_measure 2 = .ok (.invokevirtual 86, 3) := by decide +kernel
theorem dX9_measure_5 : decode cX9_measure 5 = .ok (.iload_n 2, 1) := by decide +kernel
theorem dX9_measure_6 : decode cX9_measure 6 = .ok (.iconst 0, 1) := by decide +kernel
theorem dX9_measure_7 : decode cX9_measure 7 = .ok (.bipush 11, 2) := by decide +kernel
theorem dX9_measure_9 : decode cX9_measure 9 = .ok (.invokestatic 116, 3) := by decide +kernel
theorem dX9_measure_12 : decode cX9_measure 12 = .ok (.iload_n 2, 1) := by decide +kernel
theorem dX9_measure_13 : decode cX9_measure 13 = .ok (.tableswitch 84 7 11 #[35, 44, 54, 64, 74], 35) := by decide +kernel
theorem dX9_measure_48 : decode cX9_measure 48 = .ok (.aload_n 0, 1) := by decide +kernel
theorem dX9_measure_49 : decode cX9_measure 49 = .ok (.getfield 10, 3) := by decide +kernel
theorem dX9_measure_52 : decode cX9_measure 52 = .ok (.iload_n 1, 1) := by decide +kernel
theorem dX9_measure_53 : decode cX9_measure 53 = .ok (.invokevirtual 142, 3) := by decide +kernel
theorem dX9_measure_56 : decode cX9_measure 56 = .ok (.ireturn, 1) := by decide +kernel
theorem dX9_measure_57 : decode cX9_measure 57 = .ok (.aload_n 0, 1) := by decide +kernel
theorem dX9_measure_58 : decode cX9_measure 58 = .ok (.getfield 10, 3) := by decide +kernel
theorem dX9_measure_61 : decode cX9_measure 61 = .ok (.iload_n 1, 1) := by decide +kernel
theorem dX9_measure_62 : decode cX9_measure 62 = .ok (.iconst 0, 1) := by decide +kernel
theorem dX9_measure_63 : decode cX9_measure 63 = .ok (.invokevirtual 129, 3) := by decide +kernel
theorem dX9_measure_66 : decode cX9_measure 66 = .ok (.ireturn, 1) := by decide +kernel
theorem dX9_measure_67 : decode cX9_measure 67 = .ok (.aload_n 0, 1) := by decide +kernel
theorem dX9_measure_68 : decode cX9_measure 68 = .ok (.getfield 10, 3) := by decide +kernel
theorem dX9_measure_71 : decode cX9_measure 71 = .ok (.iload_n 1, 1) := by decide +kernel
theorem dX9_measure_72 : decode cX9_measure 72 = .ok (.iconst 1, 1) := by decide +kernel
theorem dX9_measure_73 : decode cX9_measure 73 = .ok (.invokevirtual 129, 3) := by decide +kernel
theorem dX9_measure_76 : decode cX9_measure 76 = .ok (.ireturn, 1) := by decide +kernel
theorem dX9_measure_77 : decode cX9_measure 77 = .ok (.aload_n 0, 1) := by decide +kernel
theorem dX9_measure_78 : decode cX9_measure 78 = .ok (.getfield 10, 3) := by decide +kernel
theorem dX9_measure_81 : decode cX9_measure 81 = .ok (.iload_n 1, 1) := by decide +kernel
theorem dX9_measure_82 : decode cX9_measure 82 = .ok (.iconst 0, 1) := by decide +kernel
theorem dX9_measure_83 : decode cX9_measure 83 = .ok (.invokevirtual 145, 3) := by decide +kernel
theorem dX9_measure_86 : decode cX9_measure 86 = .ok (.ireturn, 1) := by decide +kernel
theorem dX9_measure_87 : decode cX9_measure 87 = .ok (.aload_n 0, 1) := by decide +kernel
theorem dX9_measure_88 : decode cX9_measure 88 = .ok (.getfield 10, 3) := by decide +kernel
theorem dX9_measure_91 : decode cX9_measure 91 = .ok (.iload_n 1, 1) := by decide +kernel
theorem dX9_measure_92 : decode cX9_measure 92 = .ok (.iconst 1, 1) := by decide +kernel
theorem dX9_measure_93 : decode cX9_measure 93 = .ok (.invokevirtual 145, 3) := by decide +kernel
theorem dX9_measure_96 : decode cX9_measure 96 = .ok (.ireturn, 1) := by decide +kernel
theorem dX9_measure_97 : decode cX9_measure 97 = .ok (.aload_n 0, 1) := by decide +kernel
theorem dX9_measure_98 : decode cX9_measure 98 = .ok (.getfield 10, 3) := by decide +kernel
theorem dX9_measure_101 : decode cX9_measure 101 = .ok (.iload_n 1, 1) := by decide +kernel
theorem dX9_measure_102 : decode cX9_measure 102 = .ok (.iload_n 2, 1) := by decide +kernel
theorem dX9_measure_103 : decode cX9_measure 103 = .ok (.invokevirtual 102, 3) := by decide +kernel
theorem dX9_measure_106 : decode cX9_measure 106 = .ok (.ireturn, 1) := by decide +kernel
theorem dX9_event_0 : decode cX9_event 0 = .ok (.aload_n 0, 1) := by decide +kernel
theorem dX9_event_1 : decode cX9_event 1 = .ok (.iload_n 1, 1) := by decide +kernel
theorem dX9_event_2 : decode cX9_event 2 = .ok (.iload_n 2, 1) := by decide +kernel
theorem dX9_event_3 : decode cX9_event 3 = .ok (.iload_n 3, 1) := by decide +kernel
theorem dX9_event_4 : decode cX9_event 4 = .ok (.invokevirtual 136, 3) := by decide +kernel
theorem dX9_event_7 : decode cX9_event 7 = .ok (.iload 4, 2) := by decide +kernel
theorem dX9_event_9 : decode cX9_event 9 = .ok (.iconst 0, 1) := by decide +kernel
theorem dX9_event_10 : decode cX9_event 10 = .ok (.bipush 9, 2) := by decide +kernel
theorem dX9_event_12 : decode cX9_event 12 = .ok (.invokestatic 116, 3) := by decide +kernel
theorem dX9_event_15 : decode cX9_event 15 = .ok (.aload_n 0, 1) := by decide +kernel
theorem dX9_event_16 : decode cX9_event 16 = .ok (.getfield 10, 3) := by decide +kernel
theorem dX9_event_19 : decode cX9_event 19 = .ok (.iload_n 1, 1) := by decide +kernel
theorem dX9_event_20 : decode cX9_event 20 = .ok (.iload_n 2, 1) := by decide +kernel
theorem dX9_event_21 : decode cX9_event 21 = .ok (.iload_n 3, 1) := by decide +kernel
theorem dX9_event_22 : decode cX9_event 22 = .ok (.invokevirtual 148, 3) := by decide +kernel
theorem dX9_event_25 : decode cX9_event 25 = .ok (.istore 5, 2) := by decide +kernel
theorem dX9_event_27 : decode cX9_event 27 = .ok (.iload 4, 2) := by decide +kernel
theorem dX9_event_29 : decode cX9_event 29 = .ok (.tableswitch 54 2 5 #[31, 54, 37, 43], 31) := by decide +kernel
theorem dX9_event_60 : decode cX9_event 60 = .ok (.iload 5, 2) := by decide +kernel
theorem dX9_event_62 : decode cX9_event 62 = .ok (.invokestatic 152, 3) := by decide +kernel
theorem dX9_event_65 : decode cX9_event 65 = .ok (.ireturn, 1) := by decide +kernel
theorem dX9_event_66 : decode cX9_event 66 = .ok (.iload 5, 2) := by decide +kernel
theorem dX9_event_68 : decode cX9_event 68 = .ok (.invokestatic 155, 3) := by decide +kernel
theorem dX9_event_71 : decode cX9_event 71 = .ok (.ireturn, 1) := by decide +kernel
theorem dX9_event_72 : decode cX9_event 72 = .ok (.aload_n 0, 1) := by decide +kernel
theorem dX9_event_73 : decode cX9_event 73 = .ok (.getfield 10, 3) := by decide +kernel
theorem dX9_event_76 : decode cX9_event 76 = .ok (.iload_n 1, 1) := by decide +kernel
theorem dX9_event_77 : decode cX9_event 77 = .ok (.iload_n 2, 1) := by decide +kernel
theorem dX9_event_78 : decode cX9_event 78 = .ok (.iload_n 3, 1) := by decide +kernel
theorem dX9_event_79 : decode cX9_event 79 = .ok (.invokevirtual 158, 3) := by decide +kernel
theorem dX9_event_82 : decode cX9_event 82 = .ok (.ireturn, 1) := by decide +kernel
theorem dX9_event_83 : decode cX9_event 83 = .ok (.iload 5, 2) := by decide +kernel
theorem dX9_event_85 : decode cX9_event 85 = .ok (.invokestatic 161, 3) := by decide +kernel
theorem dX9_event_88 : decode cX9_event 88 = .ok (.ifCond .eq 15, 3) := by decide +kernel
theorem dX9_event_91 : decode cX9_event 91 = .ok (.aload_n 0, 1) := by decide +kernel
theorem dX9_event_92 : decode cX9_event 92 = .ok (.iload_n 1, 1) := by decide +kernel
theorem dX9_event_93 : decode cX9_event 93 = .ok (.iload_n 2, 1) := by decide +kernel
theorem dX9_event_94 : decode cX9_event 94 = .ok (.iload_n 3, 1) := by decide +kernel
theorem dX9_event_95 : decode cX9_event 95 = .ok (.iload 4, 2) := by decide +kernel
theorem dX9_event_97 : decode cX9_event 97 = .ok (.invokevirtual 165, 3) := by decide +kernel
theorem dX9_event_100 : decode cX9_event 100 = .ok (.goto 6, 3) := by decide +kernel
theorem dX9_event_103 : decode cX9_event 103 = .ok (.sipush (-1000), 3) := by decide +kernel
theorem dX9_event_106 : decode cX9_event 106 = .ok (.ireturn, 1) := by decide +kernel
theorem dX9_eventAt_0 : decode cX9_eventAt 0 = .ok (.aload_n 0, 1) := by decide +kernel
theorem dX9_eventAt_1 : decode cX9_eventAt 1 = .ok (.iload_n 1, 1) := by decide +kernel
theorem dX9_eventAt_2 : decode cX9_eventAt 2 = .ok (.iload_n 2, 1) := by decide +kernel
theorem dX9_eventAt_3 : decode cX9_eventAt 3 = .ok (.invokevirtual 110, 3) := by decide +kernel
theorem dX9_eventAt_6 : decode cX9_eventAt 6 = .ok (.iload_n 3, 1) := by decide +kernel
theorem dX9_eventAt_7 : decode cX9_eventAt 7 = .ok (.invokestatic 169, 3) := by decide +kernel
theorem dX9_eventAt_10 : decode cX9_eventAt 10 = .ok (.iconst 0, 1) := by decide +kernel
theorem dX9_eventAt_11 : decode cX9_eventAt 11 = .ok (.istore 4, 2) := by decide +kernel
theorem dX9_eventAt_13 : decode cX9_eventAt 13 = .ok (.iconst 0, 1) := by decide +kernel
theorem dX9_eventAt_14 : decode cX9_eventAt 14 = .ok (.istore 5, 2) := by decide +kernel
theorem dX9_eventAt_16 : decode cX9_eventAt 16 = .ok (.iload 5, 2) := by decide +kernel
theorem dX9_eventAt_18 : decode cX9_eventAt 18 = .ok (.aload_n 0, 1) := by decide +kernel
theorem dX9_eventAt_19 : decode cX9_eventAt 19 = .ok (.getfield 10, 3) := by decide +kernel
theorem dX9_eventAt_22 : decode cX9_eventAt 22 = .ok (.iload_n 1, 1) := by decide +kernel
theorem dX9_eventAt_23 : decode cX9_eventAt 23 = .ok (.iload_n 2, 1) := by decide +kernel
theorem dX9_eventAt_24 : decode cX9_eventAt 24 = .ok (.invokevirtual 129, 3) := by decide +kernel
theorem dX9_eventAt_27 : decode cX9_eventAt 27 = .ok (.if_icmp .ge 37, 3) := by decide +kernel
theorem dX9_eventAt_30 : decode cX9_eventAt 30 = .ok (.iload 4, 2) := by decide +kernel
theorem dX9_eventAt_32 : decode cX9_eventAt 32 = .ok (.aload_n 0, 1) := by decide +kernel
theorem dX9_eventAt_33 : decode cX9_eventAt 33 = .ok (.getfield 10, 3) := by decide +kernel
theorem dX9_eventAt_36 : decode cX9_eventAt 36 = .ok (.iload_n 1, 1) := by decide +kernel
theorem dX9_eventAt_37 : decode cX9_eventAt 37 = .ok (.iload_n 2, 1) := by decide +kernel
theorem dX9_eventAt_38 : decode cX9_eventAt 38 = .ok (.iload 5, 2) := by decide +kernel
theorem dX9_eventAt_40 : decode cX9_eventAt 40 = .ok (.invokevirtual 148, 3) := by decide +kernel
theorem dX9_eventAt_43 : decode cX9_eventAt 43 = .ok (.invokestatic 155, 3) := by decide +kernel
theorem dX9_eventAt_46 : decode cX9_eventAt 46 = .ok (.iadd, 1) := by decide +kernel
theorem dX9_eventAt_47 : decode cX9_eventAt 47 = .ok (.istore 4, 2) := by decide +kernel
theorem dX9_eventAt_49 : decode cX9_eventAt 49 = .ok (.iload_n 3, 1) := by decide +kernel
theorem dX9_eventAt_50 : decode cX9_eventAt 50 = .ok (.iload 4, 2) := by decide +kernel
theorem dX9_eventAt_52 : decode cX9_eventAt 52 = .ok (.if_icmp .ge 6, 3) := by decide +kernel
theorem dX9_eventAt_55 : decode cX9_eventAt 55 = .ok (.iload 5, 2) := by decide +kernel
theorem dX9_eventAt_57 : decode cX9_eventAt 57 = .ok (.ireturn, 1) := by decide +kernel
theorem dX9_eventAt_58 : decode cX9_eventAt 58 = .ok (.iinc 5 1, 3) := by decide +kernel
theorem dX9_eventAt_61 : decode cX9_eventAt 61 = .ok (.goto (-45), 3) := by decide +kernel
theorem dX9_eventAt_64 : decode cX9_eventAt 64 = .ok (.sipush (-1000), 3) := by decide +kernel
theorem dX9_eventAt_67 : decode cX9_eventAt 67 = .ok (.ireturn, 1) := by decide +kernel
theorem dX9_crossings_0 : decode cX9_crossings 0 = .ok (.aload_n 0, 1) := by decide +kernel
theorem dX9_crossings_1 : decode cX9_crossings 1 = .ok (.iload_n 1, 1) := by decide +kernel
theorem dX9_crossings_2 : decode cX9_crossings 2 = .ok (.invokevirtual 86, 3) := by decide +kernel
theorem dX9_crossings_5 : decode cX9_crossings 5 = .ok (.aload_n 0, 1) := by decide +kernel
theorem dX9_crossings_6 : decode cX9_crossings 6 = .ok (.getfield 51, 3) := by decide +kernel
theorem dX9_crossings_9 : decode cX9_crossings 9 = .ok (.iload_n 1, 1) := by decide +kernel
theorem dX9_crossings_10 : decode cX9_crossings 10 = .ok (.invokevirtual 172, 3) := by decide +kernel
theorem dX9_crossings_13 : decode cX9_crossings 13 = .ok (.ireturn, 1) := by decide +kernel
theorem dX9_whole_0 : decode cX9_whole 0 = .ok (.iload_n 1, 1) := by decide +kernel
theorem dX9_whole_1 : decode cX9_whole 1 = .ok (.iconst 0, 1) := by decide +kernel
theorem dX9_whole_2 : decode cX9_whole 2 = .ok (.bipush 8, 2) := by decide +kernel
theorem dX9_whole_4 : decode cX9_whole 4 = .ok (.invokestatic 116, 3) := by decide +kernel
theorem dX9_whole_7 : decode cX9_whole 7 = .ok (.iload_n 1, 1) := by decide +kernel
theorem dX9_whole_8 : decode cX9_whole 8 = .ok (.tableswitch 96 0 8 #[52, 96, 96, 96, 96, 60, 68, 76, 88], 52) := by decide +kernel
theorem dX9_whole_60 : decode cX9_whole 60 = .ok (.aload_n 0, 1) := by decide +kernel
theorem dX9_whole_61 : decode cX9_whole 61 = .ok (.getfield 10, 3) := by decide +kernel
theorem dX9_whole_64 : decode cX9_whole 64 = .ok (.invokevirtual 82, 3) := by decide +kernel
theorem dX9_whole_67 : decode cX9_whole 67 = .ok (.ireturn, 1) := by decide +kernel
theorem dX9_whole_68 : decode cX9_whole 68 = .ok (.aload_n 0, 1) := by decide +kernel
theorem dX9_whole_69 : decode cX9_whole 69 = .ok (.getfield 10, 3) := by decide +kernel
theorem dX9_whole_72 : decode cX9_whole 72 = .ok (.invokevirtual 175, 3) := by decide +kernel
theorem dX9_whole_75 : decode cX9_whole 75 = .ok (.ireturn, 1) := by decide +kernel
theorem dX9_whole_76 : decode cX9_whole 76 = .ok (.aload_n 0, 1) := by decide +kernel
theorem dX9_whole_77 : decode cX9_whole 77 = .ok (.getfield 58, 3) := by decide +kernel
theorem dX9_whole_80 : decode cX9_whole 80 = .ok (.invokevirtual 178, 3) := by decide +kernel
theorem dX9_whole_83 : decode cX9_whole 83 = .ok (.ireturn, 1) := by decide +kernel
theorem dX9_whole_84 : decode cX9_whole 84 = .ok (.aload_n 0, 1) := by decide +kernel
theorem dX9_whole_85 : decode cX9_whole 85 = .ok (.getfield 58, 3) := by decide +kernel
theorem dX9_whole_88 : decode cX9_whole 88 = .ok (.aload_n 0, 1) := by decide +kernel
theorem dX9_whole_89 : decode cX9_whole 89 = .ok (.getfield 10, 3) := by decide +kernel
theorem dX9_whole_92 : decode cX9_whole 92 = .ok (.invokevirtual 179, 3) := by decide +kernel
theorem dX9_whole_95 : decode cX9_whole 95 = .ok (.ireturn, 1) := by decide +kernel
theorem dX9_whole_96 : decode cX9_whole 96 = .ok (.aload_n 0, 1) := by decide +kernel
theorem dX9_whole_97 : decode cX9_whole 97 = .ok (.getfield 26, 3) := by decide +kernel
theorem dX9_whole_100 : decode cX9_whole 100 = .ok (.invokevirtual 182, 3) := by decide +kernel
theorem dX9_whole_103 : decode cX9_whole 103 = .ok (.ireturn, 1) := by decide +kernel
theorem dX9_whole_104 : decode cX9_whole 104 = .ok (.aload_n 0, 1) := by decide +kernel
theorem dX9_whole_105 : decode cX9_whole 105 = .ok (.iload_n 1, 1) := by decide +kernel
theorem dX9_whole_106 : decode cX9_whole 106 = .ok (.invokevirtual 185, 3) := by decide +kernel
theorem dX9_whole_109 : decode cX9_whole 109 = .ok (.ireturn, 1) := by decide +kernel
theorem dX9_order_0 : decode cX9_order 0 = .ok (.iload_n 1, 1) := by decide +kernel
theorem dX9_order_1 : decode cX9_order 1 = .ok (.invokestatic 169, 3) := by decide +kernel
theorem dX9_order_4 : decode cX9_order 4 = .ok (.iload_n 1, 1) := by decide +kernel
theorem dX9_order_5 : decode cX9_order 5 = .ok (.aload_n 0, 1) := by decide +kernel
theorem dX9_order_6 : decode cX9_order 6 = .ok (.getfield 58, 3) := by decide +kernel
theorem dX9_order_9 : decode cX9_order 9 = .ok (.invokevirtual 178, 3) := by decide +kernel
theorem dX9_order_12 : decode cX9_order 12 = .ok (.if_icmp .ge 14, 3) := by decide +kernel
theorem dX9_order_15 : decode cX9_order 15 = .ok (.aload_n 0, 1) := by decide +kernel
theorem dX9_order_16 : decode cX9_order 16 = .ok (.getfield 58, 3) := by decide +kernel
theorem dX9_order_19 : decode cX9_order 19 = .ok (.iload_n 1, 1) := by decide +kernel
theorem dX9_order_20 : decode cX9_order 20 = .ok (.invokevirtual 188, 3) := by decide +kernel
theorem dX9_order_23 : decode cX9_order 23 = .ok (.goto 6, 3) := by decide +kernel
theorem dX9_order_26 : decode cX9_order 26 = .ok (.sipush (-1000), 3) := by decide +kernel
theorem dX9_order_29 : decode cX9_order 29 = .ok (.ireturn, 1) := by decide +kernel
theorem dX9_timesPlayed_0 : decode cX9_timesPlayed 0 = .ok (.aload_n 0, 1) := by decide +kernel
theorem dX9_timesPlayed_1 : decode cX9_timesPlayed 1 = .ok (.iload_n 1, 1) := by decide +kernel
theorem dX9_timesPlayed_2 : decode cX9_timesPlayed 2 = .ok (.invokevirtual 86, 3) := by decide +kernel
theorem dX9_timesPlayed_5 : decode cX9_timesPlayed 5 = .ok (.aload_n 0, 1) := by decide +kernel
theorem dX9_timesPlayed_6 : decode cX9_timesPlayed 6 = .ok (.getfield 58, 3) := by decide +kernel
theorem dX9_timesPlayed_9 : decode cX9_timesPlayed 9 = .ok (.iload_n 1, 1) := by decide +kernel
theorem dX9_timesPlayed_10 : decode cX9_timesPlayed 10 = .ok (.invokevirtual 191, 3) := by decide +kernel
theorem dX9_timesPlayed_13 : decode cX9_timesPlayed 13 = .ok (.ireturn, 1) := by decide +kernel
theorem dX9_seconds_0 : decode cX9_seconds 0 = .ok (.iload_n 1, 1) := by decide +kernel
theorem dX9_seconds_1 : decode cX9_seconds 1 = .ok (.invokestatic 169, 3) := by decide +kernel
theorem dX9_seconds_4 : decode cX9_seconds 4 = .ok (.aload_n 0, 1) := by decide +kernel
theorem dX9_seconds_5 : decode cX9_seconds 5 = .ok (.getfield 58, 3) := by decide +kernel
theorem dX9_seconds_8 : decode cX9_seconds 8 = .ok (.aload_n 0, 1) := by decide +kernel
theorem dX9_seconds_9 : decode cX9_seconds 9 = .ok (.getfield 10, 3) := by decide +kernel
theorem dX9_seconds_12 : decode cX9_seconds 12 = .ok (.iload_n 1, 1) := by decide +kernel
theorem dX9_seconds_13 : decode cX9_seconds 13 = .ok (.invokevirtual 194, 3) := by decide +kernel
theorem dX9_seconds_16 : decode cX9_seconds 16 = .ok (.freturn, 1) := by decide +kernel
theorem dX9_placeAt_0 : decode cX9_placeAt 0 = .ok (.iload_n 1, 1) := by decide +kernel
theorem dX9_placeAt_1 : decode cX9_placeAt 1 = .ok (.invokestatic 169, 3) := by decide +kernel
theorem dX9_placeAt_4 : decode cX9_placeAt 4 = .ok (.aload_n 0, 1) := by decide +kernel
theorem dX9_placeAt_5 : decode cX9_placeAt 5 = .ok (.getfield 58, 3) := by decide +kernel
theorem dX9_placeAt_8 : decode cX9_placeAt 8 = .ok (.aload_n 0, 1) := by decide +kernel
theorem dX9_placeAt_9 : decode cX9_placeAt 9 = .ok (.getfield 10, 3) := by decide +kernel
theorem dX9_placeAt_12 : decode cX9_placeAt 12 = .ok (.iload_n 1, 1) := by decide +kernel
theorem dX9_placeAt_13 : decode cX9_placeAt 13 = .ok (.i2f, 1) := by decide +kernel
theorem dX9_placeAt_14 : decode cX9_placeAt 14 = .ok (.invokevirtual 198, 3) := by decide +kernel
theorem dX9_placeAt_17 : decode cX9_placeAt 17 = .ok (.iconst 1, 1) := by decide +kernel
theorem dX9_placeAt_18 : decode cX9_placeAt 18 = .ok (.isub, 1) := by decide +kernel
theorem dX9_placeAt_19 : decode cX9_placeAt 19 = .ok (.istore_n 2, 1) := by decide +kernel
theorem dX9_placeAt_20 : decode cX9_placeAt 20 = .ok (.iload_n 2, 1) := by decide +kernel
theorem dX9_placeAt_21 : decode cX9_placeAt 21 = .ok (.ifCond .lt 18, 3) := by decide +kernel
theorem dX9_placeAt_24 : decode cX9_placeAt 24 = .ok (.iload_n 2, 1) := by decide +kernel
theorem dX9_placeAt_25 : decode cX9_placeAt 25 = .ok (.aload_n 0, 1) := by decide +kernel
theorem dX9_placeAt_26 : decode cX9_placeAt 26 = .ok (.getfield 58, 3) := by decide +kernel
theorem dX9_placeAt_29 : decode cX9_placeAt 29 = .ok (.invokevirtual 178, 3) := by decide +kernel
theorem dX9_placeAt_32 : decode cX9_placeAt 32 = .ok (.if_icmp .ge 7, 3) := by decide +kernel
theorem dX9_placeAt_35 : decode cX9_placeAt 35 = .ok (.iload_n 2, 1) := by decide +kernel
theorem dX9_placeAt_36 : decode cX9_placeAt 36 = .ok (.goto 6, 3) := by decide +kernel
theorem dX9_placeAt_39 : decode cX9_placeAt 39 = .ok (.sipush (-1000), 3) := by decide +kernel
theorem dX9_placeAt_42 : decode cX9_placeAt 42 = .ok (.ireturn, 1) := by decide +kernel
theorem dX9_sentenceLength_0 : decode cX9_sentenceLength 0 = .ok (.aload_n 0, 1) := by decide +kernel
theorem dX9_sentenceLength_1 : decode cX9_sentenceLength 1 = .ok (.iload_n 1, 1) := by decide +kernel
theorem dX9_sentenceLength_2 : decode cX9_sentenceLength 2 = .ok (.invokevirtual 86, 3) := by decide +kernel
theorem dX9_sentenceLength_5 : decode cX9_sentenceLength 5 = .ok (.aload_n 0, 1) := by decide +kernel
theorem dX9_sentenceLength_6 : decode cX9_sentenceLength 6 = .ok (.getfield 33, 3) := by decide +kernel
theorem dX9_sentenceLength_9 : decode cX9_sentenceLength 9 = .ok (.aload_n 0, 1) := by decide +kernel
theorem dX9_sentenceLength_10 : decode cX9_sentenceLength 10 = .ok (.getfield 10, 3) := by decide +kernel
theorem dX9_sentenceLength_13 : decode cX9_sentenceLength 13 = .ok (.iload_n 1, 1) := by decide +kernel
theorem dX9_sentenceLength_14 : decode cX9_sentenceLength 14 = .ok (.invokevirtual 202, 3) := by decide +kernel
theorem dX9_sentenceLength_17 : decode cX9_sentenceLength 17 = .ok (.aload_n 0, 1) := by decide +kernel
theorem dX9_sentenceLength_18 : decode cX9_sentenceLength 18 = .ok (.getfield 33, 3) := by decide +kernel
theorem dX9_sentenceLength_21 : decode cX9_sentenceLength 21 = .ok (.invokevirtual 206, 3) := by decide +kernel
theorem dX9_sentenceLength_24 : decode cX9_sentenceLength 24 = .ok (.ireturn, 1) := by decide +kernel
theorem dX9_sentenceByte_0 : decode cX9_sentenceByte 0 = .ok (.aload_n 0, 1) := by decide +kernel
theorem dX9_sentenceByte_1 : decode cX9_sentenceByte 1 = .ok (.iload_n 1, 1) := by decide +kernel
theorem dX9_sentenceByte_2 : decode cX9_sentenceByte 2 = .ok (.invokevirtual 86, 3) := by decide +kernel
theorem dX9_sentenceByte_5 : decode cX9_sentenceByte 5 = .ok (.iload_n 2, 1) := by decide +kernel
theorem dX9_sentenceByte_6 : decode cX9_sentenceByte 6 = .ok (.invokestatic 169, 3) := by decide +kernel
theorem dX9_sentenceByte_9 : decode cX9_sentenceByte 9 = .ok (.aload_n 0, 1) := by decide +kernel
theorem dX9_sentenceByte_10 : decode cX9_sentenceByte 10 = .ok (.getfield 33, 3) := by decide +kernel
theorem dX9_sentenceByte_13 : decode cX9_sentenceByte 13 = .ok (.aload_n 0, 1) := by decide +kernel
theorem dX9_sentenceByte_14 : decode cX9_sentenceByte 14 = .ok (.getfield 10, 3) := by decide +kernel
theorem dX9_sentenceByte_17 : decode cX9_sentenceByte 17 = .ok (.iload_n 1, 1) := by decide +kernel
theorem dX9_sentenceByte_18 : decode cX9_sentenceByte 18 = .ok (.invokevirtual 202, 3) := by decide +kernel
theorem dX9_sentenceByte_21 : decode cX9_sentenceByte 21 = .ok (.iload_n 2, 1) := by decide +kernel
theorem dX9_sentenceByte_22 : decode cX9_sentenceByte 22 = .ok (.aload_n 0, 1) := by decide +kernel
theorem dX9_sentenceByte_23 : decode cX9_sentenceByte 23 = .ok (.getfield 33, 3) := by decide +kernel
theorem dX9_sentenceByte_26 : decode cX9_sentenceByte 26 = .ok (.invokevirtual 206, 3) := by decide +kernel
theorem dX9_sentenceByte_29 : decode cX9_sentenceByte 29 = .ok (.if_icmp .ge 14, 3) := by decide +kernel
theorem dX9_sentenceByte_32 : decode cX9_sentenceByte 32 = .ok (.aload_n 0, 1) := by decide +kernel
theorem dX9_sentenceByte_33 : decode cX9_sentenceByte 33 = .ok (.getfield 33, 3) := by decide +kernel
theorem dX9_sentenceByte_36 : decode cX9_sentenceByte 36 = .ok (.iload_n 2, 1) := by decide +kernel
theorem dX9_sentenceByte_37 : decode cX9_sentenceByte 37 = .ok (.invokevirtual 207, 3) := by decide +kernel
theorem dX9_sentenceByte_40 : decode cX9_sentenceByte 40 = .ok (.goto 6, 3) := by decide +kernel
theorem dX9_sentenceByte_43 : decode cX9_sentenceByte 43 = .ok (.sipush (-1000), 3) := by decide +kernel
theorem dX9_sentenceByte_46 : decode cX9_sentenceByte 46 = .ok (.ireturn, 1) := by decide +kernel
theorem dX9_words_0 : decode cX9_words 0 = .ok (.aload_n 0, 1) := by decide +kernel
theorem dX9_words_1 : decode cX9_words 1 = .ok (.iload_n 1, 1) := by decide +kernel
theorem dX9_words_2 : decode cX9_words 2 = .ok (.invokevirtual 86, 3) := by decide +kernel
theorem dX9_words_5 : decode cX9_words 5 = .ok (.aload_n 0, 1) := by decide +kernel
theorem dX9_words_6 : decode cX9_words 6 = .ok (.getfield 33, 3) := by decide +kernel
theorem dX9_words_9 : decode cX9_words 9 = .ok (.aload_n 0, 1) := by decide +kernel
theorem dX9_words_10 : decode cX9_words 10 = .ok (.getfield 10, 3) := by decide +kernel
theorem dX9_words_13 : decode cX9_words 13 = .ok (.iload_n 1, 1) := by decide +kernel
theorem dX9_words_14 : decode cX9_words 14 = .ok (.invokevirtual 202, 3) := by decide +kernel
theorem dX9_words_17 : decode cX9_words 17 = .ok (.aload_n 0, 1) := by decide +kernel
theorem dX9_words_18 : decode cX9_words 18 = .ok (.getfield 33, 3) := by decide +kernel
theorem dX9_words_21 : decode cX9_words 21 = .ok (.invokevirtual 208, 3) := by decide +kernel
theorem dX9_words_24 : decode cX9_words 24 = .ok (.ireturn, 1) := by decide +kernel
theorem dX9_copySentence_0 : decode cX9_copySentence 0 = .ok (.aload_n 0, 1) := by decide +kernel
theorem dX9_copySentence_1 : decode cX9_copySentence 1 = .ok (.iload_n 1, 1) := by decide +kernel
theorem dX9_copySentence_2 : decode cX9_copySentence 2 = .ok (.invokevirtual 86, 3) := by decide +kernel
theorem dX9_copySentence_5 : decode cX9_copySentence 5 = .ok (.aload_n 0, 1) := by decide +kernel
theorem dX9_copySentence_6 : decode cX9_copySentence 6 = .ok (.getfield 33, 3) := by decide +kernel
theorem dX9_copySentence_9 : decode cX9_copySentence 9 = .ok (.aload_n 0, 1) := by decide +kernel
theorem dX9_copySentence_10 : decode cX9_copySentence 10 = .ok (.getfield 10, 3) := by decide +kernel
theorem dX9_copySentence_13 : decode cX9_copySentence 13 = .ok (.iload_n 1, 1) := by decide +kernel
theorem dX9_copySentence_14 : decode cX9_copySentence 14 = .ok (.invokevirtual 202, 3) := by decide +kernel
theorem dX9_copySentence_17 : decode cX9_copySentence 17 = .ok (.aload_n 0, 1) := by decide +kernel
theorem dX9_copySentence_18 : decode cX9_copySentence 18 = .ok (.getfield 33, 3) := by decide +kernel
theorem dX9_copySentence_21 : decode cX9_copySentence 21 = .ok (.invokevirtual 206, 3) := by decide +kernel
theorem dX9_copySentence_24 : decode cX9_copySentence 24 = .ok (.sipush 600, 3) := by decide +kernel
theorem dX9_copySentence_27 : decode cX9_copySentence 27 = .ok (.if_icmp .le 13, 3) := by decide +kernel
theorem dX9_copySentence_30 : decode cX9_copySentence 30 = .ok (.new 66, 3) := by decide +kernel
theorem dX9_copySentence_33 : decode cX9_copySentence 33 = .ok (.dup, 1) := by decide +kernel
theorem dX9_copySentence_34 : decode cX9_copySentence 34 = .ok (.ldc 211, 2) := by decide +kernel
theorem dX9_copySentence_36 : decode cX9_copySentence 36 = .ok (.invokespecial 70, 3) := by decide +kernel
theorem dX9_copySentence_39 : decode cX9_copySentence 39 = .ok (.athrow, 1) := by decide +kernel
theorem dX9_copySentence_40 : decode cX9_copySentence 40 = .ok (.aload_n 0, 1) := by decide +kernel
theorem dX9_copySentence_41 : decode cX9_copySentence 41 = .ok (.getfield 26, 3) := by decide +kernel
theorem dX9_copySentence_44 : decode cX9_copySentence 44 = .ok (.aload_n 0, 1) := by decide +kernel
theorem dX9_copySentence_45 : decode cX9_copySentence 45 = .ok (.getfield 26, 3) := by decide +kernel
theorem dX9_copySentence_48 : decode cX9_copySentence 48 = .ok (.invokevirtual 182, 3) := by decide +kernel
theorem dX9_copySentence_51 : decode cX9_copySentence 51 = .ok (.invokevirtual 213, 3) := by decide +kernel
theorem dX9_copySentence_54 : decode cX9_copySentence 54 = .ok (.iconst 0, 1) := by decide +kernel
theorem dX9_copySentence_55 : decode cX9_copySentence 55 = .ok (.istore_n 2, 1) := by decide +kernel
theorem dX9_copySentence_56 : decode cX9_copySentence 56 = .ok (.iload_n 2, 1) := by decide +kernel
theorem dX9_copySentence_57 : decode cX9_copySentence 57 = .ok (.aload_n 0, 1) := by decide +kernel
theorem dX9_copySentence_58 : decode cX9_copySentence 58 = .ok (.getfield 33, 3) := by decide +kernel
theorem dX9_copySentence_61 : decode cX9_copySentence 61 = .ok (.invokevirtual 206, 3) := by decide +kernel
theorem dX9_copySentence_64 : decode cX9_copySentence 64 = .ok (.if_icmp .ge 24, 3) := by decide +kernel
theorem dX9_copySentence_67 : decode cX9_copySentence 67 = .ok (.aload_n 0, 1) := by decide +kernel
theorem dX9_copySentence_68 : decode cX9_copySentence 68 = .ok (.getfield 26, 3) := by decide +kernel
theorem dX9_copySentence_71 : decode cX9_copySentence 71 = .ok (.aload_n 0, 1) := by decide +kernel
theorem dX9_copySentence_72 : decode cX9_copySentence 72 = .ok (.getfield 33, 3) := by decide +kernel
theorem dX9_copySentence_75 : decode cX9_copySentence 75 = .ok (.iload_n 2, 1) := by decide +kernel
theorem dX9_copySentence_76 : decode cX9_copySentence 76 = .ok (.invokevirtual 207, 3) := by decide +kernel
theorem dX9_copySentence_79 : decode cX9_copySentence 79 = .ok (.invokevirtual 216, 3) := by decide +kernel
theorem dX9_copySentence_82 : decode cX9_copySentence 82 = .ok (.iinc 2 1, 3) := by decide +kernel
theorem dX9_copySentence_85 : decode cX9_copySentence 85 = .ok (.goto (-29), 3) := by decide +kernel
theorem dX9_copySentence_88 : decode cX9_copySentence 88 = .ok (.aload_n 0, 1) := by decide +kernel
theorem dX9_copySentence_89 : decode cX9_copySentence 89 = .ok (.getfield 26, 3) := by decide +kernel
theorem dX9_copySentence_92 : decode cX9_copySentence 92 = .ok (.invokevirtual 182, 3) := by decide +kernel
theorem dX9_copySentence_95 : decode cX9_copySentence 95 = .ok (.ireturn, 1) := by decide +kernel
theorem dX9_type_0 : decode cX9_type 0 = .ok (.iload_n 1, 1) := by decide +kernel
theorem dX9_type_1 : decode cX9_type 1 = .ok (.iconst 0, 1) := by decide +kernel
theorem dX9_type_2 : decode cX9_type 2 = .ok (.bipush 127, 2) := by decide +kernel
theorem dX9_type_4 : decode cX9_type 4 = .ok (.invokestatic 116, 3) := by decide +kernel
theorem dX9_type_7 : decode cX9_type 7 = .ok (.aload_n 0, 1) := by decide +kernel
theorem dX9_type_8 : decode cX9_type 8 = .ok (.getfield 26, 3) := by decide +kernel
theorem dX9_type_11 : decode cX9_type 11 = .ok (.invokevirtual 182, 3) := by decide +kernel
theorem dX9_type_14 : decode cX9_type 14 = .ok (.sipush 600, 3) := by decide +kernel
theorem dX9_type_17 : decode cX9_type 17 = .ok (.if_icmp .lt 13, 3) := by decide +kernel
theorem dX9_type_20 : decode cX9_type 20 = .ok (.new 66, 3) := by decide +kernel
theorem dX9_type_23 : decode cX9_type 23 = .ok (.dup, 1) := by decide +kernel
theorem dX9_type_24 : decode cX9_type 24 = .ok (.ldc 219, 2) := by decide +kernel
theorem dX9_type_26 : decode cX9_type 26 = .ok (.invokespecial 70, 3) := by decide +kernel
theorem dX9_type_29 : decode cX9_type 29 = .ok (.athrow, 1) := by decide +kernel
theorem dX9_type_30 : decode cX9_type 30 = .ok (.aload_n 0, 1) := by decide +kernel
theorem dX9_type_31 : decode cX9_type 31 = .ok (.getfield 26, 3) := by decide +kernel
theorem dX9_type_34 : decode cX9_type 34 = .ok (.iload_n 1, 1) := by decide +kernel
theorem dX9_type_35 : decode cX9_type 35 = .ok (.invokevirtual 216, 3) := by decide +kernel
theorem dX9_type_38 : decode cX9_type 38 = .ok (.aload_n 0, 1) := by decide +kernel
theorem dX9_type_39 : decode cX9_type 39 = .ok (.getfield 26, 3) := by decide +kernel
theorem dX9_type_42 : decode cX9_type 42 = .ok (.invokevirtual 182, 3) := by decide +kernel
theorem dX9_type_45 : decode cX9_type 45 = .ok (.ireturn, 1) := by decide +kernel
theorem dX9_cut_0 : decode cX9_cut 0 = .ok (.iload_n 1, 1) := by decide +kernel
theorem dX9_cut_1 : decode cX9_cut 1 = .ok (.iconst 1, 1) := by decide +kernel
theorem dX9_cut_2 : decode cX9_cut 2 = .ok (.sipush 600, 3) := by decide +kernel
theorem dX9_cut_5 : decode cX9_cut 5 = .ok (.invokestatic 116, 3) := by decide +kernel
theorem dX9_cut_8 : decode cX9_cut 8 = .ok (.aload_n 0, 1) := by decide +kernel
theorem dX9_cut_9 : decode cX9_cut 9 = .ok (.getfield 26, 3) := by decide +kernel
theorem dX9_cut_12 : decode cX9_cut 12 = .ok (.invokevirtual 182, 3) := by decide +kernel
theorem dX9_cut_15 : decode cX9_cut 15 = .ok (.iload_n 1, 1) := by decide +kernel
theorem dX9_cut_16 : decode cX9_cut 16 = .ok (.if_icmp .ge 13, 3) := by decide +kernel
theorem dX9_cut_19 : decode cX9_cut 19 = .ok (.new 66, 3) := by decide +kernel
theorem dX9_cut_22 : decode cX9_cut 22 = .ok (.dup, 1) := by decide +kernel
theorem dX9_cut_23 : decode cX9_cut 23 = .ok (.ldc 221, 2) := by decide +kernel
theorem dX9_cut_25 : decode cX9_cut 25 = .ok (.invokespecial 70, 3) := by decide +kernel
theorem dX9_cut_28 : decode cX9_cut 28 = .ok (.athrow, 1) := by decide +kernel
theorem dX9_cut_29 : decode cX9_cut 29 = .ok (.aload_n 0, 1) := by decide +kernel
theorem dX9_cut_30 : decode cX9_cut 30 = .ok (.getfield 26, 3) := by decide +kernel
theorem dX9_cut_33 : decode cX9_cut 33 = .ok (.iload_n 1, 1) := by decide +kernel
theorem dX9_cut_34 : decode cX9_cut 34 = .ok (.invokevirtual 213, 3) := by decide +kernel
theorem dX9_cut_37 : decode cX9_cut 37 = .ok (.aload_n 0, 1) := by decide +kernel
theorem dX9_cut_38 : decode cX9_cut 38 = .ok (.getfield 26, 3) := by decide +kernel
theorem dX9_cut_41 : decode cX9_cut 41 = .ok (.invokevirtual 182, 3) := by decide +kernel
theorem dX9_cut_44 : decode cX9_cut 44 = .ok (.ireturn, 1) := by decide +kernel
theorem dX9_clearText_0 : decode cX9_clearText 0 = .ok (.aload_n 0, 1) := by decide +kernel
theorem dX9_clearText_1 : decode cX9_clearText 1 = .ok (.getfield 26, 3) := by decide +kernel
theorem dX9_clearText_4 : decode cX9_clearText 4 = .ok (.invokevirtual 182, 3) := by decide +kernel
theorem dX9_clearText_7 : decode cX9_clearText 7 = .ok (.istore_n 1, 1) := by decide +kernel
theorem dX9_clearText_8 : decode cX9_clearText 8 = .ok (.aload_n 0, 1) := by decide +kernel
theorem dX9_clearText_9 : decode cX9_clearText 9 = .ok (.getfield 26, 3) := by decide +kernel
theorem dX9_clearText_12 : decode cX9_clearText 12 = .ok (.iload_n 1, 1) := by decide +kernel
theorem dX9_clearText_13 : decode cX9_clearText 13 = .ok (.invokevirtual 213, 3) := by decide +kernel
theorem dX9_clearText_16 : decode cX9_clearText 16 = .ok (.iload_n 1, 1) := by decide +kernel
theorem dX9_clearText_17 : decode cX9_clearText 17 = .ok (.ireturn, 1) := by decide +kernel
theorem dX9_fault_0 : decode cX9_fault 0 = .ok (.aload_n 0, 1) := by decide +kernel
theorem dX9_fault_1 : decode cX9_fault 1 = .ok (.getfield 42, 3) := by decide +kernel
theorem dX9_fault_4 : decode cX9_fault 4 = .ok (.invokevirtual 223, 3) := by decide +kernel
theorem dX9_fault_7 : decode cX9_fault 7 = .ok (.ireturn, 1) := by decide +kernel
theorem dX9_readInto_0 : decode cX9_readInto 0 = .ok (.aload_n 0, 1) := by decide +kernel
theorem dX9_readInto_1 : decode cX9_readInto 1 = .ok (.iload_n 1, 1) := by decide +kernel
theorem dX9_readInto_2 : decode cX9_readInto 2 = .ok (.invokevirtual 86, 3) := by decide +kernel
theorem dX9_readInto_5 : decode cX9_readInto 5 = .ok (.aload_n 0, 1) := by decide +kernel
theorem dX9_readInto_6 : decode cX9_readInto 6 = .ok (.getfield 42, 3) := by decide +kernel
theorem dX9_readInto_9 : decode cX9_readInto 9 = .ok (.invokevirtual 223, 3) := by decide +kernel
theorem dX9_readInto_12 : decode cX9_readInto 12 = .ok (.istore_n 2, 1) := by decide +kernel
theorem dX9_readInto_13 : decode cX9_readInto 13 = .ok (.iload_n 2, 1) := by decide +kernel
theorem dX9_readInto_14 : decode cX9_readInto 14 = .ok (.sipush (-1000), 3) := by decide +kernel
theorem dX9_readInto_17 : decode cX9_readInto 17 = .ok (.if_icmp .eq 9, 3) := by decide +kernel
theorem dX9_readInto_20 : decode cX9_readInto 20 = .ok (.sipush (-2000), 3) := by decide +kernel
theorem dX9_readInto_23 : decode cX9_readInto 23 = .ok (.iload_n 2, 1) := by decide +kernel
theorem dX9_readInto_24 : decode cX9_readInto 24 = .ok (.isub, 1) := by decide +kernel
theorem dX9_readInto_25 : decode cX9_readInto 25 = .ok (.ireturn, 1) := by decide +kernel
theorem dX9_readInto_26 : decode cX9_readInto 26 = .ok (.aload_n 0, 1) := by decide +kernel
theorem dX9_readInto_27 : decode cX9_readInto 27 = .ok (.getfield 19, 3) := by decide +kernel
theorem dX9_readInto_30 : decode cX9_readInto 30 = .ok (.aload_n 0, 1) := by decide +kernel
theorem dX9_readInto_31 : decode cX9_readInto 31 = .ok (.getfield 10, 3) := by decide +kernel
theorem dX9_readInto_34 : decode cX9_readInto 34 = .ok (.invokevirtual 73, 3) := by decide +kernel
theorem dX9_readInto_37 : decode cX9_readInto 37 = .ok (.aload_n 0, 1) := by decide +kernel
theorem dX9_readInto_38 : decode cX9_readInto 38 = .ok (.getfield 10, 3) := by decide +kernel
theorem dX9_readInto_41 : decode cX9_readInto 41 = .ok (.iload_n 1, 1) := by decide +kernel
theorem dX9_readInto_42 : decode cX9_readInto 42 = .ok (.aload_n 0, 1) := by decide +kernel
theorem dX9_readInto_43 : decode cX9_readInto 43 = .ok (.getfield 42, 3) := by decide +kernel
theorem dX9_readInto_46 : decode cX9_readInto 46 = .ok (.invokevirtual 226, 3) := by decide +kernel
theorem dX9_readInto_49 : decode cX9_readInto 49 = .ok (.invokevirtual 230, 3) := by decide +kernel
theorem dX9_readInto_52 : decode cX9_readInto 52 = .ok (.aload_n 0, 1) := by decide +kernel
theorem dX9_readInto_53 : decode cX9_readInto 53 = .ok (.invokevirtual 79, 3) := by decide +kernel
theorem dX9_readInto_56 : decode cX9_readInto 56 = .ok (.aload_n 0, 1) := by decide +kernel
theorem dX9_readInto_57 : decode cX9_readInto 57 = .ok (.getfield 10, 3) := by decide +kernel
theorem dX9_readInto_60 : decode cX9_readInto 60 = .ok (.iload_n 1, 1) := by decide +kernel
theorem dX9_readInto_61 : decode cX9_readInto 61 = .ok (.iconst 0, 1) := by decide +kernel
theorem dX9_readInto_62 : decode cX9_readInto 62 = .ok (.invokevirtual 129, 3) := by decide +kernel
theorem dX9_readInto_65 : decode cX9_readInto 65 = .ok (.aload_n 0, 1) := by decide +kernel
theorem dX9_readInto_66 : decode cX9_readInto 66 = .ok (.getfield 10, 3) := by decide +kernel
theorem dX9_readInto_69 : decode cX9_readInto 69 = .ok (.iload_n 1, 1) := by decide +kernel
theorem dX9_readInto_70 : decode cX9_readInto 70 = .ok (.iconst 1, 1) := by decide +kernel
theorem dX9_readInto_71 : decode cX9_readInto 71 = .ok (.invokevirtual 129, 3) := by decide +kernel
theorem dX9_readInto_74 : decode cX9_readInto 74 = .ok (.iadd, 1) := by decide +kernel
theorem dX9_readInto_75 : decode cX9_readInto 75 = .ok (.ireturn, 1) := by decide +kernel
theorem dX9_tells_0 : decode cX9_tells 0 = .ok (.aload_n 0, 1) := by decide +kernel
theorem dX9_tells_1 : decode cX9_tells 1 = .ok (.iload_n 1, 1) := by decide +kernel
theorem dX9_tells_2 : decode cX9_tells 2 = .ok (.invokevirtual 86, 3) := by decide +kernel
theorem dX9_tells_5 : decode cX9_tells 5 = .ok (.aload_n 0, 1) := by decide +kernel
theorem dX9_tells_6 : decode cX9_tells 6 = .ok (.getfield 42, 3) := by decide +kernel
theorem dX9_tells_9 : decode cX9_tells 9 = .ok (.invokevirtual 223, 3) := by decide +kernel
theorem dX9_tells_12 : decode cX9_tells 12 = .ok (.sipush (-1000), 3) := by decide +kernel
theorem dX9_tells_15 : decode cX9_tells 15 = .ok (.if_icmp .ne 25, 3) := by decide +kernel
theorem dX9_tells_18 : decode cX9_tells 18 = .ok (.aload_n 0, 1) := by decide +kernel
theorem dX9_tells_19 : decode cX9_tells 19 = .ok (.getfield 10, 3) := by decide +kernel
theorem dX9_tells_22 : decode cX9_tells 22 = .ok (.iload_n 1, 1) := by decide +kernel
theorem dX9_tells_23 : decode cX9_tells 23 = .ok (.aload_n 0, 1) := by decide +kernel
theorem dX9_tells_24 : decode cX9_tells 24 = .ok (.getfield 42, 3) := by decide +kernel
theorem dX9_tells_27 : decode cX9_tells 27 = .ok (.invokevirtual 226, 3) := by decide +kernel
theorem dX9_tells_30 : decode cX9_tells 30 = .ok (.invokevirtual 234, 3) := by decide +kernel
theorem dX9_tells_33 : decode cX9_tells 33 = .ok (.ifCond .eq 7, 3) := by decide +kernel
theorem dX9_tells_36 : decode cX9_tells 36 = .ok (.iconst 1, 1) := by decide +kernel
theorem dX9_tells_37 : decode cX9_tells 37 = .ok (.goto 4, 3) := by decide +kernel
theorem dX9_tells_40 : decode cX9_tells 40 = .ok (.iconst 0, 1) := by decide +kernel
theorem dX9_tells_41 : decode cX9_tells 41 = .ok (.ireturn, 1) := by decide +kernel
theorem dX9_changedBy_0 : decode cX9_changedBy 0 = .ok (.aload_n 0, 1) := by decide +kernel
theorem dX9_changedBy_1 : decode cX9_changedBy 1 = .ok (.iload_n 1, 1) := by decide +kernel
theorem dX9_changedBy_2 : decode cX9_changedBy 2 = .ok (.invokevirtual 86, 3) := by decide +kernel
theorem dX9_changedBy_5 : decode cX9_changedBy 5 = .ok (.iload_n 2, 1) := by decide +kernel
theorem dX9_changedBy_6 : decode cX9_changedBy 6 = .ok (.bipush (-7), 2) := by decide +kernel
theorem dX9_changedBy_8 : decode cX9_changedBy 8 = .ok (.bipush 7, 2) := by decide +kernel
theorem dX9_changedBy_10 : decode cX9_changedBy 10 = .ok (.invokestatic 116, 3) := by decide +kernel
theorem dX9_changedBy_13 : decode cX9_changedBy 13 = .ok (.aload_n 0, 1) := by decide +kernel
theorem dX9_changedBy_14 : decode cX9_changedBy 14 = .ok (.getfield 51, 3) := by decide +kernel
theorem dX9_changedBy_17 : decode cX9_changedBy 17 = .ok (.iload_n 1, 1) := by decide +kernel
theorem dX9_changedBy_18 : decode cX9_changedBy 18 = .ok (.iload_n 2, 1) := by decide +kernel
theorem dX9_changedBy_19 : decode cX9_changedBy 19 = .ok (.invokevirtual 238, 3) := by decide +kernel
theorem dX9_changedBy_22 : decode cX9_changedBy 22 = .ok (.ireturn, 1) := by decide +kernel
theorem dX9_nearestKey_0 : decode cX9_nearestKey 0 = .ok (.aload_n 0, 1) := by decide +kernel
theorem dX9_nearestKey_1 : decode cX9_nearestKey 1 = .ok (.iload_n 1, 1) := by decide +kernel
theorem dX9_nearestKey_2 : decode cX9_nearestKey 2 = .ok (.invokevirtual 86, 3) := by decide +kernel
theorem dX9_nearestKey_5 : decode cX9_nearestKey 5 = .ok (.sipush (-1000), 3) := by decide +kernel
theorem dX9_nearestKey_8 : decode cX9_nearestKey 8 = .ok (.istore_n 2, 1) := by decide +kernel
theorem dX9_nearestKey_9 : decode cX9_nearestKey 9 = .ok (.bipush 49, 2) := by decide +kernel
theorem dX9_nearestKey_11 : decode cX9_nearestKey 11 = .ok (.istore_n 3, 1) := by decide +kernel
theorem dX9_nearestKey_12 : decode cX9_nearestKey 12 = .ok (.bipush (-7), 2) := by decide +kernel
theorem dX9_nearestKey_14 : decode cX9_nearestKey 14 = .ok (.istore 4, 2) := by decide +kernel
theorem dX9_nearestKey_16 : decode cX9_nearestKey 16 = .ok (.iload 4, 2) := by decide +kernel
theorem dX9_nearestKey_18 : decode cX9_nearestKey 18 = .ok (.bipush 7, 2) := by decide +kernel
theorem dX9_nearestKey_20 : decode cX9_nearestKey 20 = .ok (.if_icmp .gt 47, 3) := by decide +kernel
theorem dX9_nearestKey_23 : decode cX9_nearestKey 23 = .ok (.iload 4, 2) := by decide +kernel
theorem dX9_nearestKey_25 : decode cX9_nearestKey 25 = .ok (.aload_n 0, 1) := by decide +kernel
theorem dX9_nearestKey_26 : decode cX9_nearestKey 26 = .ok (.getfield 10, 3) := by decide +kernel
theorem dX9_nearestKey_29 : decode cX9_nearestKey 29 = .ok (.iload_n 1, 1) := by decide +kernel
theorem dX9_nearestKey_30 : decode cX9_nearestKey 30 = .ok (.iconst 0, 1) := by decide +kernel
theorem dX9_nearestKey_31 : decode cX9_nearestKey 31 = .ok (.invokevirtual 102, 3) := by decide +kernel
theorem dX9_nearestKey_34 : decode cX9_nearestKey 34 = .ok (.if_icmp .eq 27, 3) := by decide +kernel
theorem dX9_nearestKey_37 : decode cX9_nearestKey 37 = .ok (.aload_n 0, 1) := by decide +kernel
theorem dX9_nearestKey_38 : decode cX9_nearestKey 38 = .ok (.getfield 51, 3) := by decide +kernel
theorem dX9_nearestKey_41 : decode cX9_nearestKey 41 = .ok (.iload_n 1, 1) := by decide +kernel
theorem dX9_nearestKey_42 : decode cX9_nearestKey 42 = .ok (.iload 4, 2) := by decide +kernel
theorem dX9_nearestKey_44 : decode cX9_nearestKey 44 = .ok (.invokevirtual 238, 3) := by decide +kernel
theorem dX9_nearestKey_47 : decode cX9_nearestKey 47 = .ok (.istore 5, 2) := by decide +kernel
theorem dX9_nearestKey_49 : decode cX9_nearestKey 49 = .ok (.iload 5, 2) := by decide +kernel
theorem dX9_nearestKey_51 : decode cX9_nearestKey 51 = .ok (.iload_n 3, 1) := by decide +kernel
theorem dX9_nearestKey_52 : decode cX9_nearestKey 52 = .ok (.if_icmp .ge 9, 3) := by decide +kernel
theorem dX9_nearestKey_55 : decode cX9_nearestKey 55 = .ok (.iload 5, 2) := by decide +kernel
theorem dX9_nearestKey_57 : decode cX9_nearestKey 57 = .ok (.istore_n 3, 1) := by decide +kernel
theorem dX9_nearestKey_58 : decode cX9_nearestKey 58 = .ok (.iload 4, 2) := by decide +kernel
theorem dX9_nearestKey_60 : decode cX9_nearestKey 60 = .ok (.istore_n 2, 1) := by decide +kernel
theorem dX9_nearestKey_61 : decode cX9_nearestKey 61 = .ok (.iinc 4 1, 3) := by decide +kernel
theorem dX9_nearestKey_64 : decode cX9_nearestKey 64 = .ok (.goto (-48), 3) := by decide +kernel
theorem dX9_nearestKey_67 : decode cX9_nearestKey 67 = .ok (.iload_n 2, 1) := by decide +kernel
theorem dX9_nearestKey_68 : decode cX9_nearestKey 68 = .ok (.ireturn, 1) := by decide +kernel
theorem dX9_needlessSigns_0 : decode cX9_needlessSigns 0 = .ok (.aload_n 0, 1) := by decide +kernel
theorem dX9_needlessSigns_1 : decode cX9_needlessSigns 1 = .ok (.iload_n 1, 1) := by decide +kernel
theorem dX9_needlessSigns_2 : decode cX9_needlessSigns 2 = .ok (.invokevirtual 86, 3) := by decide +kernel
theorem dX9_needlessSigns_5 : decode cX9_needlessSigns 5 = .ok (.aload_n 0, 1) := by decide +kernel
theorem dX9_needlessSigns_6 : decode cX9_needlessSigns 6 = .ok (.getfield 51, 3) := by decide +kernel
theorem dX9_needlessSigns_9 : decode cX9_needlessSigns 9 = .ok (.iload_n 1, 1) := by decide +kernel
theorem dX9_needlessSigns_10 : decode cX9_needlessSigns 10 = .ok (.invokevirtual 241, 3) := by decide +kernel
theorem dX9_needlessSigns_13 : decode cX9_needlessSigns 13 = .ok (.ireturn, 1) := by decide +kernel
theorem dX9_undo_0 : decode cX9_undo 0 = .ok (.aload_n 0, 1) := by decide +kernel
theorem dX9_undo_1 : decode cX9_undo 1 = .ok (.getfield 19, 3) := by decide +kernel
theorem dX9_undo_4 : decode cX9_undo 4 = .ok (.invokevirtual 244, 3) := by decide +kernel
theorem dX9_undo_7 : decode cX9_undo 7 = .ok (.ifCond .ne 13, 3) := by decide +kernel
theorem dX9_undo_10 : decode cX9_undo 10 = .ok (.new 66, 3) := by decide +kernel
theorem dX9_undo_13 : decode cX9_undo 13 = .ok (.dup, 1) := by decide +kernel
theorem dX9_undo_14 : decode cX9_undo 14 = .ok (.ldc 245, 2) := by decide +kernel
theorem dX9_undo_16 : decode cX9_undo 16 = .ok (.invokespecial 70, 3) := by decide +kernel
theorem dX9_undo_19 : decode cX9_undo 19 = .ok (.athrow, 1) := by decide +kernel
theorem dX9_undo_20 : decode cX9_undo 20 = .ok (.aload_n 0, 1) := by decide +kernel
theorem dX9_undo_21 : decode cX9_undo 21 = .ok (.getfield 19, 3) := by decide +kernel
theorem dX9_undo_24 : decode cX9_undo 24 = .ok (.aload_n 0, 1) := by decide +kernel
theorem dX9_undo_25 : decode cX9_undo 25 = .ok (.getfield 10, 3) := by decide +kernel
theorem dX9_undo_28 : decode cX9_undo 28 = .ok (.invokevirtual 247, 3) := by decide +kernel
theorem dX9_undo_31 : decode cX9_undo 31 = .ok (.aload_n 0, 1) := by decide +kernel
theorem dX9_undo_32 : decode cX9_undo 32 = .ok (.invokevirtual 79, 3) := by decide +kernel
theorem dX9_undo_35 : decode cX9_undo 35 = .ok (.aload_n 0, 1) := by decide +kernel
theorem dX9_undo_36 : decode cX9_undo 36 = .ok (.getfield 19, 3) := by decide +kernel
theorem dX9_undo_39 : decode cX9_undo 39 = .ok (.invokevirtual 244, 3) := by decide +kernel
theorem dX9_undo_42 : decode cX9_undo 42 = .ok (.ireturn, 1) := by decide +kernel
theorem dX9_digest_0 : decode cX9_digest 0 = .ok (.ldc2_w 250, 3) := by decide +kernel
theorem dX9_digest_3 : decode cX9_digest 3 = .ok (.aload_n 0, 1) := by decide +kernel
theorem dX9_digest_4 : decode cX9_digest 4 = .ok (.getfield 19, 3) := by decide +kernel
theorem dX9_digest_7 : decode cX9_digest 7 = .ok (.invokevirtual 244, 3) := by decide +kernel
theorem dX9_digest_10 : decode cX9_digest 10 = .ok (.i2l, 1) := by decide +kernel
theorem dX9_digest_11 : decode cX9_digest 11 = .ok (.invokestatic 252, 3) := by decide +kernel
theorem dX9_digest_14 : decode cX9_digest 14 = .ok (.lstore_n 1, 1) := by decide +kernel
theorem dX9_digest_15 : decode cX9_digest 15 = .ok (.iconst 0, 1) := by decide +kernel
theorem dX9_digest_16 : decode cX9_digest 16 = .ok (.istore_n 3, 1) := by decide +kernel
theorem dX9_digest_17 : decode cX9_digest 17 = .ok (.iload_n 3, 1) := by decide +kernel
theorem dX9_digest_18 : decode cX9_digest 18 = .ok (.bipush 9, 2) := by decide +kernel
theorem dX9_digest_20 : decode cX9_digest 20 = .ok (.if_icmp .ge 20, 3) := by decide +kernel
theorem dX9_digest_23 : decode cX9_digest 23 = .ok (.lload_n 1, 1) := by decide +kernel
theorem dX9_digest_24 : decode cX9_digest 24 = .ok (.aload_n 0, 1) := by decide +kernel
theorem dX9_digest_25 : decode cX9_digest 25 = .ok (.iload_n 3, 1) := by decide +kernel
theorem dX9_digest_26 : decode cX9_digest 26 = .ok (.invokevirtual 256, 3) := by decide +kernel
theorem dX9_digest_29 : decode cX9_digest 29 = .ok (.i2l, 1) := by decide +kernel
theorem dX9_digest_30 : decode cX9_digest 30 = .ok (.invokestatic 252, 3) := by decide +kernel
theorem dX9_digest_33 : decode cX9_digest 33 = .ok (.lstore_n 1, 1) := by decide +kernel
theorem dX9_digest_34 : decode cX9_digest 34 = .ok (.iinc 3 1, 3) := by decide +kernel
theorem dX9_digest_37 : decode cX9_digest 37 = .ok (.goto (-20), 3) := by decide +kernel
theorem dX9_digest_40 : decode cX9_digest 40 = .ok (.iconst 0, 1) := by decide +kernel
theorem dX9_digest_41 : decode cX9_digest 41 = .ok (.istore_n 3, 1) := by decide +kernel
theorem dX9_digest_42 : decode cX9_digest 42 = .ok (.iload_n 3, 1) := by decide +kernel
theorem dX9_digest_43 : decode cX9_digest 43 = .ok (.aload_n 0, 1) := by decide +kernel
theorem dX9_digest_44 : decode cX9_digest 44 = .ok (.getfield 10, 3) := by decide +kernel
theorem dX9_digest_47 : decode cX9_digest 47 = .ok (.invokevirtual 82, 3) := by decide +kernel
theorem dX9_digest_50 : decode cX9_digest 50 = .ok (.if_icmp .ge 61, 3) := by decide +kernel
theorem dX9_digest_53 : decode cX9_digest 53 = .ok (.aload_n 0, 1) := by decide +kernel
theorem dX9_digest_54 : decode cX9_digest 54 = .ok (.lload_n 1, 1) := by decide +kernel
theorem dX9_digest_55 : decode cX9_digest 55 = .ok (.iload_n 3, 1) := by decide +kernel
theorem dX9_digest_56 : decode cX9_digest 56 = .ok (.invokevirtual 259, 3) := by decide +kernel
theorem dX9_digest_59 : decode cX9_digest 59 = .ok (.lstore_n 1, 1) := by decide +kernel
theorem dX9_digest_60 : decode cX9_digest 60 = .ok (.aload_n 0, 1) := by decide +kernel
theorem dX9_digest_61 : decode cX9_digest 61 = .ok (.lload_n 1, 1) := by decide +kernel
theorem dX9_digest_62 : decode cX9_digest 62 = .ok (.iload_n 3, 1) := by decide +kernel
theorem dX9_digest_63 : decode cX9_digest 63 = .ok (.iconst 0, 1) := by decide +kernel
theorem dX9_digest_64 : decode cX9_digest 64 = .ok (.invokevirtual 263, 3) := by decide +kernel
theorem dX9_digest_67 : decode cX9_digest 67 = .ok (.lstore_n 1, 1) := by decide +kernel
theorem dX9_digest_68 : decode cX9_digest 68 = .ok (.aload_n 0, 1) := by decide +kernel
theorem dX9_digest_69 : decode cX9_digest 69 = .ok (.lload_n 1, 1) := by decide +kernel
theorem dX9_digest_70 : decode cX9_digest 70 = .ok (.iload_n 3, 1) := by decide +kernel
theorem dX9_digest_71 : decode cX9_digest 71 = .ok (.iconst 1, 1) := by decide +kernel
theorem dX9_digest_72 : decode cX9_digest 72 = .ok (.invokevirtual 263, 3) := by decide +kernel
theorem dX9_digest_75 : decode cX9_digest 75 = .ok (.lstore_n 1, 1) := by decide +kernel
theorem dX9_digest_76 : decode cX9_digest 76 = .ok (.lload_n 1, 1) := by decide +kernel
theorem dX9_digest_77 : decode cX9_digest 77 = .ok (.aload_n 0, 1) := by decide +kernel
theorem dX9_digest_78 : decode cX9_digest 78 = .ok (.iload_n 3, 1) := by decide +kernel
theorem dX9_digest_79 : decode cX9_digest 79 = .ok (.invokevirtual 267, 3) := by decide +kernel
theorem dX9_digest_82 : decode cX9_digest 82 = .ok (.i2l, 1) := by decide +kernel
theorem dX9_digest_83 : decode cX9_digest 83 = .ok (.invokestatic 252, 3) := by decide +kernel
theorem dX9_digest_86 : decode cX9_digest 86 = .ok (.lstore_n 1, 1) := by decide +kernel
theorem dX9_digest_87 : decode cX9_digest 87 = .ok (.lload_n 1, 1) := by decide +kernel
theorem dX9_digest_88 : decode cX9_digest 88 = .ok (.aload_n 0, 1) := by decide +kernel
theorem dX9_digest_89 : decode cX9_digest 89 = .ok (.iload_n 3, 1) := by decide +kernel
theorem dX9_digest_90 : decode cX9_digest 90 = .ok (.invokevirtual 270, 3) := by decide +kernel
theorem dX9_digest_93 : decode cX9_digest 93 = .ok (.i2l, 1) := by decide +kernel
theorem dX9_digest_94 : decode cX9_digest 94 = .ok (.invokestatic 252, 3) := by decide +kernel
theorem dX9_digest_97 : decode cX9_digest 97 = .ok (.lstore_n 1, 1) := by decide +kernel
theorem dX9_digest_98 : decode cX9_digest 98 = .ok (.aload_n 0, 1) := by decide +kernel
theorem dX9_digest_99 : decode cX9_digest 99 = .ok (.lload_n 1, 1) := by decide +kernel
theorem dX9_digest_100 : decode cX9_digest 100 = .ok (.iload_n 3, 1) := by decide +kernel
theorem dX9_digest_101 : decode cX9_digest 101 = .ok (.invokevirtual 273, 3) := by decide +kernel
theorem dX9_digest_104 : decode cX9_digest 104 = .ok (.lstore_n 1, 1) := by decide +kernel
theorem dX9_digest_105 : decode cX9_digest 105 = .ok (.iinc 3 1, 3) := by decide +kernel
theorem dX9_digest_108 : decode cX9_digest 108 = .ok (.goto (-66), 3) := by decide +kernel
theorem dX9_digest_111 : decode cX9_digest 111 = .ok (.iconst 0, 1) := by decide +kernel
theorem dX9_digest_112 : decode cX9_digest 112 = .ok (.istore_n 3, 1) := by decide +kernel
theorem dX9_digest_113 : decode cX9_digest 113 = .ok (.iload_n 3, 1) := by decide +kernel
theorem dX9_digest_114 : decode cX9_digest 114 = .ok (.aload_n 0, 1) := by decide +kernel
theorem dX9_digest_115 : decode cX9_digest 115 = .ok (.getfield 58, 3) := by decide +kernel
theorem dX9_digest_118 : decode cX9_digest 118 = .ok (.invokevirtual 178, 3) := by decide +kernel
theorem dX9_digest_121 : decode cX9_digest 121 = .ok (.if_icmp .ge 23, 3) := by decide +kernel
theorem dX9_digest_124 : decode cX9_digest 124 = .ok (.lload_n 1, 1) := by decide +kernel
theorem dX9_digest_125 : decode cX9_digest 125 = .ok (.aload_n 0, 1) := by decide +kernel
theorem dX9_digest_126 : decode cX9_digest 126 = .ok (.getfield 58, 3) := by decide +kernel
theorem dX9_digest_129 : decode cX9_digest 129 = .ok (.iload_n 3, 1) := by decide +kernel
theorem dX9_digest_130 : decode cX9_digest 130 = .ok (.invokevirtual 188, 3) := by decide +kernel
theorem dX9_digest_133 : decode cX9_digest 133 = .ok (.i2l, 1) := by decide +kernel
theorem dX9_digest_134 : decode cX9_digest 134 = .ok (.invokestatic 252, 3) := by decide +kernel
theorem dX9_digest_137 : decode cX9_digest 137 = .ok (.lstore_n 1, 1) := by decide +kernel
theorem dX9_digest_138 : decode cX9_digest 138 = .ok (.iinc 3 1, 3) := by decide +kernel
theorem dX9_digest_141 : decode cX9_digest 141 = .ok (.goto (-28), 3) := by decide +kernel
theorem dX9_digest_144 : decode cX9_digest 144 = .ok (.lload_n 1, 1) := by decide +kernel
theorem dX9_digest_145 : decode cX9_digest 145 = .ok (.aload_n 0, 1) := by decide +kernel
theorem dX9_digest_146 : decode cX9_digest 146 = .ok (.getfield 42, 3) := by decide +kernel
theorem dX9_digest_149 : decode cX9_digest 149 = .ok (.invokevirtual 223, 3) := by decide +kernel
theorem dX9_digest_152 : decode cX9_digest 152 = .ok (.i2l, 1) := by decide +kernel
theorem dX9_digest_153 : decode cX9_digest 153 = .ok (.invokestatic 252, 3) := by decide +kernel
theorem dX9_digest_156 : decode cX9_digest 156 = .ok (.lreturn, 1) := by decide +kernel
theorem dX9_mix_0 : decode cX9_mix 0 = .ok (.ldc2_w 276, 3) := by decide +kernel
theorem dX9_mix_3 : decode cX9_mix 3 = .ok (.lload_n 0, 1) := by decide +kernel
theorem dX9_mix_4 : decode cX9_mix 4 = .ok (.lmul, 1) := by decide +kernel
theorem dX9_mix_5 : decode cX9_mix 5 = .ok (.lload_n 2, 1) := by decide +kernel
theorem dX9_mix_6 : decode cX9_mix 6 = .ok (.ladd, 1) := by decide +kernel
theorem dX9_mix_7 : decode cX9_mix 7 = .ok (.lreturn, 1) := by decide +kernel
theorem dX9_mixValues_0 : decode cX9_mixValues 0 = .ok (.lload_n 1, 1) := by decide +kernel
theorem dX9_mixValues_1 : decode cX9_mixValues 1 = .ok (.lstore 4, 2) := by decide +kernel
theorem dX9_mixValues_3 : decode cX9_mixValues 3 = .ok (.iconst 0, 1) := by decide +kernel
theorem dX9_mixValues_4 : decode cX9_mixValues 4 = .ok (.istore 6, 2) := by decide +kernel
theorem dX9_mixValues_6 : decode cX9_mixValues 6 = .ok (.iload 6, 2) := by decide +kernel
theorem dX9_mixValues_8 : decode cX9_mixValues 8 = .ok (.bipush 12, 2) := by decide +kernel
theorem dX9_mixValues_10 : decode cX9_mixValues 10 = .ok (.if_icmp .ge 24, 3) := by decide +kernel
theorem dX9_mixValues_13 : decode cX9_mixValues 13 = .ok (.lload 4, 2) := by decide +kernel
theorem dX9_mixValues_15 : decode cX9_mixValues 15 = .ok (.aload_n 0, 1) := by decide +kernel
theorem dX9_mixValues_16 : decode cX9_mixValues 16 = .ok (.iload_n 3, 1) := by decide +kernel
theorem dX9_mixValues_17 : decode cX9_mixValues 17 = .ok (.iload 6, 2) := by decide +kernel
theorem dX9_mixValues_19 : decode cX9_mixValues 19 = .ok (.invokevirtual 278, 3) := by decide +kernel
theorem dX9_mixValues_22 : decode cX9_mixValues 22 = .ok (.i2l, 1) := by decide +kernel
theorem dX9_mixValues_23 : decode cX9_mixValues 23 = .ok (.invokestatic 252, 3) := by decide +kernel
theorem dX9_mixValues_26 : decode cX9_mixValues 26 = .ok (.lstore 4, 2) := by decide +kernel
theorem dX9_mixValues_28 : decode cX9_mixValues 28 = .ok (.iinc 6 1, 3) := by decide +kernel
theorem dX9_mixValues_31 : decode cX9_mixValues 31 = .ok (.goto (-25), 3) := by decide +kernel
theorem dX9_mixValues_34 : decode cX9_mixValues 34 = .ok (.lload 4, 2) := by decide +kernel
theorem dX9_mixValues_36 : decode cX9_mixValues 36 = .ok (.lreturn, 1) := by decide +kernel
theorem dX9_mixVoice_0 : decode cX9_mixVoice 0 = .ok (.lload_n 1, 1) := by decide +kernel
theorem dX9_mixVoice_1 : decode cX9_mixVoice 1 = .ok (.lstore 5, 2) := by decide +kernel
theorem dX9_mixVoice_3 : decode cX9_mixVoice 3 = .ok (.iconst 0, 1) := by decide +kernel
theorem dX9_mixVoice_4 : decode cX9_mixVoice 4 = .ok (.istore 7, 2) := by decide +kernel
theorem dX9_mixVoice_6 : decode cX9_mixVoice 6 = .ok (.iload 7, 2) := by decide +kernel
theorem dX9_mixVoice_8 : decode cX9_mixVoice 8 = .ok (.aload_n 0, 1) := by decide +kernel
theorem dX9_mixVoice_9 : decode cX9_mixVoice 9 = .ok (.getfield 10, 3) := by decide +kernel
theorem dX9_mixVoice_12 : decode cX9_mixVoice 12 = .ok (.iload_n 3, 1) := by decide +kernel
theorem dX9_mixVoice_13 : decode cX9_mixVoice 13 = .ok (.iload 4, 2) := by decide +kernel
theorem dX9_mixVoice_15 : decode cX9_mixVoice 15 = .ok (.invokevirtual 129, 3) := by decide +kernel
theorem dX9_mixVoice_18 : decode cX9_mixVoice 18 = .ok (.if_icmp .ge 44, 3) := by decide +kernel
theorem dX9_mixVoice_21 : decode cX9_mixVoice 21 = .ok (.iconst 0, 1) := by decide +kernel
theorem dX9_mixVoice_22 : decode cX9_mixVoice 22 = .ok (.istore 8, 2) := by decide +kernel
theorem dX9_mixVoice_24 : decode cX9_mixVoice 24 = .ok (.iload 8, 2) := by decide +kernel
theorem dX9_mixVoice_26 : decode cX9_mixVoice 26 = .ok (.bipush 10, 2) := by decide +kernel
theorem dX9_mixVoice_28 : decode cX9_mixVoice 28 = .ok (.if_icmp .ge 28, 3) := by decide +kernel
theorem dX9_mixVoice_31 : decode cX9_mixVoice 31 = .ok (.lload 5, 2) := by decide +kernel
theorem dX9_mixVoice_33 : decode cX9_mixVoice 33 = .ok (.aload_n 0, 1) := by decide +kernel
theorem dX9_mixVoice_34 : decode cX9_mixVoice 34 = .ok (.iload_n 3, 1) := by decide +kernel
theorem dX9_mixVoice_35 : decode cX9_mixVoice 35 = .ok (.iload 4, 2) := by decide +kernel
theorem dX9_mixVoice_37 : decode cX9_mixVoice 37 = .ok (.iload 7, 2) := by decide +kernel
theorem dX9_mixVoice_39 : decode cX9_mixVoice 39 = .ok (.iload 8, 2) := by decide +kernel
theorem dX9_mixVoice_41 : decode cX9_mixVoice 41 = .ok (.invokevirtual 281, 3) := by decide +kernel
theorem dX9_mixVoice_44 : decode cX9_mixVoice 44 = .ok (.i2l, 1) := by decide +kernel
theorem dX9_mixVoice_45 : decode cX9_mixVoice 45 = .ok (.invokestatic 252, 3) := by decide +kernel
theorem dX9_mixVoice_48 : decode cX9_mixVoice 48 = .ok (.lstore 5, 2) := by decide +kernel
theorem dX9_mixVoice_50 : decode cX9_mixVoice 50 = .ok (.iinc 8 1, 3) := by decide +kernel
theorem dX9_mixVoice_53 : decode cX9_mixVoice 53 = .ok (.goto (-29), 3) := by decide +kernel
theorem dX9_mixVoice_56 : decode cX9_mixVoice 56 = .ok (.iinc 7 1, 3) := by decide +kernel
theorem dX9_mixVoice_59 : decode cX9_mixVoice 59 = .ok (.goto (-53), 3) := by decide +kernel
theorem dX9_mixVoice_62 : decode cX9_mixVoice 62 = .ok (.lload 5, 2) := by decide +kernel
theorem dX9_mixVoice_64 : decode cX9_mixVoice 64 = .ok (.lreturn, 1) := by decide +kernel
theorem dX9_mixSentence_0 : decode cX9_mixSentence 0 = .ok (.lload_n 1, 1) := by decide +kernel
theorem dX9_mixSentence_1 : decode cX9_mixSentence 1 = .ok (.lstore 4, 2) := by decide +kernel
theorem dX9_mixSentence_3 : decode cX9_mixSentence 3 = .ok (.aload_n 0, 1) := by decide +kernel
theorem dX9_mixSentence_4 : decode cX9_mixSentence 4 = .ok (.getfield 33, 3) := by decide +kernel
theorem dX9_mixSentence_7 : decode cX9_mixSentence 7 = .ok (.aload_n 0, 1) := by decide +kernel
theorem dX9_mixSentence_8 : decode cX9_mixSentence 8 = .ok (.getfield 10, 3) := by decide +kernel
theorem dX9_mixSentence_11 : decode cX9_mixSentence 11 = .ok (.iload_n 3, 1) := by decide +kernel
theorem dX9_mixSentence_12 : decode cX9_mixSentence 12 = .ok (.invokevirtual 202, 3) := by decide +kernel
theorem dX9_mixSentence_15 : decode cX9_mixSentence 15 = .ok (.iconst 0, 1) := by decide +kernel
theorem dX9_mixSentence_16 : decode cX9_mixSentence 16 = .ok (.istore 6, 2) := by decide +kernel
theorem dX9_mixSentence_18 : decode cX9_mixSentence 18 = .ok (.iload 6, 2) := by decide +kernel
theorem dX9_mixSentence_20 : decode cX9_mixSentence 20 = .ok (.aload_n 0, 1) := by decide +kernel
theorem dX9_mixSentence_21 : decode cX9_mixSentence 21 = .ok (.getfield 33, 3) := by decide +kernel
theorem dX9_mixSentence_24 : decode cX9_mixSentence 24 = .ok (.invokevirtual 206, 3) := by decide +kernel
theorem dX9_mixSentence_27 : decode cX9_mixSentence 27 = .ok (.if_icmp .ge 26, 3) := by decide +kernel
theorem dX9_mixSentence_30 : decode cX9_mixSentence 30 = .ok (.lload 4, 2) := by decide +kernel
theorem dX9_mixSentence_32 : decode cX9_mixSentence 32 = .ok (.aload_n 0, 1) := by decide +kernel
theorem dX9_mixSentence_33 : decode cX9_mixSentence 33 = .ok (.getfield 33, 3) := by decide +kernel
theorem dX9_mixSentence_36 : decode cX9_mixSentence 36 = .ok (.iload 6, 2) := by decide +kernel
theorem dX9_mixSentence_38 : decode cX9_mixSentence 38 = .ok (.invokevirtual 207, 3) := by decide +kernel
theorem dX9_mixSentence_41 : decode cX9_mixSentence 41 = .ok (.i2l, 1) := by decide +kernel
theorem dX9_mixSentence_42 : decode cX9_mixSentence 42 = .ok (.invokestatic 252, 3) := by decide +kernel
theorem dX9_mixSentence_45 : decode cX9_mixSentence 45 = .ok (.lstore 4, 2) := by decide +kernel
theorem dX9_mixSentence_47 : decode cX9_mixSentence 47 = .ok (.iinc 6 1, 3) := by decide +kernel
theorem dX9_mixSentence_50 : decode cX9_mixSentence 50 = .ok (.goto (-32), 3) := by decide +kernel
theorem dX9_mixSentence_53 : decode cX9_mixSentence 53 = .ok (.lload 4, 2) := by decide +kernel
theorem dX9_mixSentence_55 : decode cX9_mixSentence 55 = .ok (.lreturn, 1) := by decide +kernel
theorem dX9_noteValue_0 : decode cX9_noteValue 0 = .ok (.aload_n 0, 1) := by decide +kernel
theorem dX9_noteValue_1 : decode cX9_noteValue 1 = .ok (.getfield 10, 3) := by decide +kernel
theorem dX9_noteValue_4 : decode cX9_noteValue 4 = .ok (.iload_n 1, 1) := by decide +kernel
theorem dX9_noteValue_5 : decode cX9_noteValue 5 = .ok (.iload_n 2, 1) := by decide +kernel
theorem dX9_noteValue_6 : decode cX9_noteValue 6 = .ok (.iload_n 3, 1) := by decide +kernel
theorem dX9_noteValue_7 : decode cX9_noteValue 7 = .ok (.invokevirtual 148, 3) := by decide +kernel
theorem dX9_noteValue_10 : decode cX9_noteValue 10 = .ok (.istore 5, 2) := by decide +kernel
theorem dX9_noteValue_12 : decode cX9_noteValue 12 = .ok (.iload 4, 2) := by decide +kernel
theorem dX9_noteValue_14 : decode cX9_noteValue 14 = .ok (.tableswitch 109 0 8 #[50, 56, 109, 62, 109, 109, 76, 87, 98], 50) := by decide +kernel
theorem dX9_noteValue_64 : decode cX9_noteValue 64 = .ok (.iload 5, 2) := by decide +kernel
theorem dX9_noteValue_66 : decode cX9_noteValue 66 = .ok (.invokestatic 284, 3) := by decide +kernel
theorem dX9_noteValue_69 : decode cX9_noteValue 69 = .ok (.ireturn, 1) := by decide +kernel
theorem dX9_noteValue_70 : decode cX9_noteValue 70 = .ok (.iload 5, 2) := by decide +kernel
theorem dX9_noteValue_72 : decode cX9_noteValue 72 = .ok (.invokestatic 287, 3) := by decide +kernel
theorem dX9_noteValue_75 : decode cX9_noteValue 75 = .ok (.ireturn, 1) := by decide +kernel
theorem dX9_noteValue_76 : decode cX9_noteValue 76 = .ok (.iload 5, 2) := by decide +kernel
theorem dX9_noteValue_78 : decode cX9_noteValue 78 = .ok (.invokestatic 290, 3) := by decide +kernel
theorem dX9_noteValue_81 : decode cX9_noteValue 81 = .ok (.ifCond .eq 7, 3) := by decide +kernel
theorem dX9_noteValue_84 : decode cX9_noteValue 84 = .ok (.iconst 1, 1) := by decide +kernel
theorem dX9_noteValue_85 : decode cX9_noteValue 85 = .ok (.goto 4, 3) := by decide +kernel
theorem dX9_noteValue_88 : decode cX9_noteValue 88 = .ok (.iconst 0, 1) := by decide +kernel
theorem dX9_noteValue_89 : decode cX9_noteValue 89 = .ok (.ireturn, 1) := by decide +kernel
theorem dX9_noteValue_90 : decode cX9_noteValue 90 = .ok (.aload_n 0, 1) := by decide +kernel
theorem dX9_noteValue_91 : decode cX9_noteValue 91 = .ok (.getfield 51, 3) := by decide +kernel
theorem dX9_noteValue_94 : decode cX9_noteValue 94 = .ok (.iload_n 1, 1) := by decide +kernel
theorem dX9_noteValue_95 : decode cX9_noteValue 95 = .ok (.iload_n 2, 1) := by decide +kernel
theorem dX9_noteValue_96 : decode cX9_noteValue 96 = .ok (.iload_n 3, 1) := by decide +kernel
theorem dX9_noteValue_97 : decode cX9_noteValue 97 = .ok (.invokevirtual 293, 3) := by decide +kernel
theorem dX9_noteValue_100 : decode cX9_noteValue 100 = .ok (.ireturn, 1) := by decide +kernel
theorem dX9_noteValue_101 : decode cX9_noteValue 101 = .ok (.aload_n 0, 1) := by decide +kernel
theorem dX9_noteValue_102 : decode cX9_noteValue 102 = .ok (.getfield 51, 3) := by decide +kernel
theorem dX9_noteValue_105 : decode cX9_noteValue 105 = .ok (.iload_n 1, 1) := by decide +kernel
theorem dX9_noteValue_106 : decode cX9_noteValue 106 = .ok (.iload_n 2, 1) := by decide +kernel
theorem dX9_noteValue_107 : decode cX9_noteValue 107 = .ok (.iload_n 3, 1) := by decide +kernel
theorem dX9_noteValue_108 : decode cX9_noteValue 108 = .ok (.invokevirtual 296, 3) := by decide +kernel
theorem dX9_noteValue_111 : decode cX9_noteValue 111 = .ok (.ireturn, 1) := by decide +kernel
theorem dX9_noteValue_112 : decode cX9_noteValue 112 = .ok (.aload_n 0, 1) := by decide +kernel
theorem dX9_noteValue_113 : decode cX9_noteValue 113 = .ok (.getfield 51, 3) := by decide +kernel
theorem dX9_noteValue_116 : decode cX9_noteValue 116 = .ok (.iload_n 1, 1) := by decide +kernel
theorem dX9_noteValue_117 : decode cX9_noteValue 117 = .ok (.iload_n 2, 1) := by decide +kernel
theorem dX9_noteValue_118 : decode cX9_noteValue 118 = .ok (.iload_n 3, 1) := by decide +kernel
theorem dX9_noteValue_119 : decode cX9_noteValue 119 = .ok (.invokevirtual 299, 3) := by decide +kernel
theorem dX9_noteValue_122 : decode cX9_noteValue 122 = .ok (.ireturn, 1) := by decide +kernel
theorem dX9_noteValue_123 : decode cX9_noteValue 123 = .ok (.aload_n 0, 1) := by decide +kernel
theorem dX9_noteValue_124 : decode cX9_noteValue 124 = .ok (.getfield 51, 3) := by decide +kernel
theorem dX9_noteValue_127 : decode cX9_noteValue 127 = .ok (.iload_n 1, 1) := by decide +kernel
theorem dX9_noteValue_128 : decode cX9_noteValue 128 = .ok (.iload_n 2, 1) := by decide +kernel
theorem dX9_noteValue_129 : decode cX9_noteValue 129 = .ok (.iload_n 3, 1) := by decide +kernel
theorem dX9_noteValue_130 : decode cX9_noteValue 130 = .ok (.invokevirtual 302, 3) := by decide +kernel
theorem dX9_noteValue_133 : decode cX9_noteValue 133 = .ok (.ifCond .eq 7, 3) := by decide +kernel
theorem dX9_noteValue_136 : decode cX9_noteValue 136 = .ok (.iconst 1, 1) := by decide +kernel
theorem dX9_noteValue_137 : decode cX9_noteValue 137 = .ok (.goto 4, 3) := by decide +kernel
theorem dX9_noteValue_140 : decode cX9_noteValue 140 = .ok (.iconst 0, 1) := by decide +kernel
theorem dX9_noteValue_141 : decode cX9_noteValue 141 = .ok (.ireturn, 1) := by decide +kernel
theorem dX9_eventsOfKind_0 : decode cX9_eventsOfKind 0 = .ok (.iconst 0, 1) := by decide +kernel
theorem dX9_eventsOfKind_1 : decode cX9_eventsOfKind 1 = .ok (.istore_n 2, 1) := by decide +kernel
theorem dX9_eventsOfKind_2 : decode cX9_eventsOfKind 2 = .ok (.iconst 0, 1) := by decide +kernel
theorem dX9_eventsOfKind_3 : decode cX9_eventsOfKind 3 = .ok (.istore_n 3, 1) := by decide +kernel
theorem dX9_eventsOfKind_4 : decode cX9_eventsOfKind 4 = .ok (.iload_n 3, 1) := by decide +kernel
theorem dX9_eventsOfKind_5 : decode cX9_eventsOfKind 5 = .ok (.aload_n 0, 1) := by decide +kernel
theorem dX9_eventsOfKind_6 : decode cX9_eventsOfKind 6 = .ok (.getfield 10, 3) := by decide +kernel
theorem dX9_eventsOfKind_9 : decode cX9_eventsOfKind 9 = .ok (.invokevirtual 82, 3) := by decide +kernel
theorem dX9_eventsOfKind_12 : decode cX9_eventsOfKind 12 = .ok (.if_icmp .ge 69, 3) := by decide +kernel
theorem dX9_eventsOfKind_15 : decode cX9_eventsOfKind 15 = .ok (.iconst 0, 1) := by decide +kernel
theorem dX9_eventsOfKind_16 : decode cX9_eventsOfKind 16 = .ok (.istore 4, 2) := by decide +kernel
theorem dX9_eventsOfKind_18 : decode cX9_eventsOfKind 18 = .ok (.iload 4, 2) := by decide +kernel
theorem dX9_eventsOfKind_20 : decode cX9_eventsOfKind 20 = .ok (.iconst 2, 1) := by decide +kernel
theorem dX9_eventsOfKind_21 : decode cX9_eventsOfKind 21 = .ok (.if_icmp .ge 54, 3) := by decide +kernel
theorem dX9_eventsOfKind_24 : decode cX9_eventsOfKind 24 = .ok (.iconst 0, 1) := by decide +kernel
theorem dX9_eventsOfKind_25 : decode cX9_eventsOfKind 25 = .ok (.istore 5, 2) := by decide +kernel
theorem dX9_eventsOfKind_27 : decode cX9_eventsOfKind 27 = .ok (.iload 5, 2) := by decide +kernel
theorem dX9_eventsOfKind_29 : decode cX9_eventsOfKind 29 = .ok (.aload_n 0, 1) := by decide +kernel
theorem dX9_eventsOfKind_30 : decode cX9_eventsOfKind 30 = .ok (.getfield 10, 3) := by decide +kernel
theorem dX9_eventsOfKind_33 : decode cX9_eventsOfKind 33 = .ok (.iload_n 3, 1) := by decide +kernel
theorem dX9_eventsOfKind_34 : decode cX9_eventsOfKind 34 = .ok (.iload 4, 2) := by decide +kernel
theorem dX9_eventsOfKind_36 : decode cX9_eventsOfKind 36 = .ok (.invokevirtual 129, 3) := by decide +kernel
theorem dX9_eventsOfKind_39 : decode cX9_eventsOfKind 39 = .ok (.if_icmp .ge 30, 3) := by decide +kernel
theorem dX9_eventsOfKind_42 : decode cX9_eventsOfKind 42 = .ok (.iload_n 2, 1) := by decide +kernel
theorem dX9_eventsOfKind_43 : decode cX9_eventsOfKind 43 = .ok (.aload_n 0, 1) := by decide +kernel
theorem dX9_eventsOfKind_44 : decode cX9_eventsOfKind 44 = .ok (.iload_n 3, 1) := by decide +kernel
theorem dX9_eventsOfKind_45 : decode cX9_eventsOfKind 45 = .ok (.iload 4, 2) := by decide +kernel
theorem dX9_eventsOfKind_47 : decode cX9_eventsOfKind 47 = .ok (.iload 5, 2) := by decide +kernel
theorem dX9_eventsOfKind_49 : decode cX9_eventsOfKind 49 = .ok (.iload_n 1, 1) := by decide +kernel
theorem dX9_eventsOfKind_50 : decode cX9_eventsOfKind 50 = .ok (.invokevirtual 306, 3) := by decide +kernel
theorem dX9_eventsOfKind_53 : decode cX9_eventsOfKind 53 = .ok (.ifCond .eq 7, 3) := by decide +kernel
theorem dX9_eventsOfKind_56 : decode cX9_eventsOfKind 56 = .ok (.iconst 1, 1) := by decide +kernel
theorem dX9_eventsOfKind_57 : decode cX9_eventsOfKind 57 = .ok (.goto 4, 3) := by decide +kernel
theorem dX9_eventsOfKind_60 : decode cX9_eventsOfKind 60 = .ok (.iconst 0, 1) := by decide +kernel
theorem dX9_eventsOfKind_61 : decode cX9_eventsOfKind 61 = .ok (.iadd, 1) := by decide +kernel
theorem dX9_eventsOfKind_62 : decode cX9_eventsOfKind 62 = .ok (.istore_n 2, 1) := by decide +kernel
theorem dX9_eventsOfKind_63 : decode cX9_eventsOfKind 63 = .ok (.iinc 5 1, 3) := by decide +kernel
theorem dX9_eventsOfKind_66 : decode cX9_eventsOfKind 66 = .ok (.goto (-39), 3) := by decide +kernel
theorem dX9_eventsOfKind_69 : decode cX9_eventsOfKind 69 = .ok (.iinc 4 1, 3) := by decide +kernel
theorem dX9_eventsOfKind_72 : decode cX9_eventsOfKind 72 = .ok (.goto (-54), 3) := by decide +kernel
theorem dX9_eventsOfKind_75 : decode cX9_eventsOfKind 75 = .ok (.iinc 3 1, 3) := by decide +kernel
theorem dX9_eventsOfKind_78 : decode cX9_eventsOfKind 78 = .ok (.goto (-74), 3) := by decide +kernel
theorem dX9_eventsOfKind_81 : decode cX9_eventsOfKind 81 = .ok (.iload_n 2, 1) := by decide +kernel
theorem dX9_eventsOfKind_82 : decode cX9_eventsOfKind 82 = .ok (.ireturn, 1) := by decide +kernel
theorem dX9_isOfKind_0 : decode cX9_isOfKind 0 = .ok (.aload_n 0, 1) := by decide +kernel
theorem dX9_isOfKind_1 : decode cX9_isOfKind 1 = .ok (.getfield 10, 3) := by decide +kernel
theorem dX9_isOfKind_4 : decode cX9_isOfKind 4 = .ok (.iload_n 1, 1) := by decide +kernel
theorem dX9_isOfKind_5 : decode cX9_isOfKind 5 = .ok (.iload_n 2, 1) := by decide +kernel
theorem dX9_isOfKind_6 : decode cX9_isOfKind 6 = .ok (.iload_n 3, 1) := by decide +kernel
theorem dX9_isOfKind_7 : decode cX9_isOfKind 7 = .ok (.invokevirtual 148, 3) := by decide +kernel
theorem dX9_isOfKind_10 : decode cX9_isOfKind 10 = .ok (.istore 5, 2) := by decide +kernel
theorem dX9_isOfKind_12 : decode cX9_isOfKind 12 = .ok (.iload 4, 2) := by decide +kernel
theorem dX9_isOfKind_14 : decode cX9_isOfKind 14 = .ok (.tableswitch 40 1 3 #[26, 28, 34], 26) := by decide +kernel
theorem dX9_isOfKind_40 : decode cX9_isOfKind 40 = .ok (.iconst 1, 1) := by decide +kernel
theorem dX9_isOfKind_41 : decode cX9_isOfKind 41 = .ok (.ireturn, 1) := by decide +kernel
theorem dX9_isOfKind_42 : decode cX9_isOfKind 42 = .ok (.iload 5, 2) := by decide +kernel
theorem dX9_isOfKind_44 : decode cX9_isOfKind 44 = .ok (.invokestatic 161, 3) := by decide +kernel
theorem dX9_isOfKind_47 : decode cX9_isOfKind 47 = .ok (.ireturn, 1) := by decide +kernel
theorem dX9_isOfKind_48 : decode cX9_isOfKind 48 = .ok (.iload 5, 2) := by decide +kernel
theorem dX9_isOfKind_50 : decode cX9_isOfKind 50 = .ok (.invokestatic 290, 3) := by decide +kernel
theorem dX9_isOfKind_53 : decode cX9_isOfKind 53 = .ok (.ireturn, 1) := by decide +kernel
theorem dX9_isOfKind_54 : decode cX9_isOfKind 54 = .ok (.aload_n 0, 1) := by decide +kernel
theorem dX9_isOfKind_55 : decode cX9_isOfKind 55 = .ok (.getfield 51, 3) := by decide +kernel
theorem dX9_isOfKind_58 : decode cX9_isOfKind 58 = .ok (.iload_n 1, 1) := by decide +kernel
theorem dX9_isOfKind_59 : decode cX9_isOfKind 59 = .ok (.iload_n 2, 1) := by decide +kernel
theorem dX9_isOfKind_60 : decode cX9_isOfKind 60 = .ok (.iload_n 3, 1) := by decide +kernel
theorem dX9_isOfKind_61 : decode cX9_isOfKind 61 = .ok (.invokevirtual 302, 3) := by decide +kernel
theorem dX9_isOfKind_64 : decode cX9_isOfKind 64 = .ok (.ireturn, 1) := by decide +kernel
theorem dX9_settle_0 : decode cX9_settle 0 = .ok (.aload_n 0, 1) := by decide +kernel
theorem dX9_settle_1 : decode cX9_settle 1 = .ok (.getfield 51, 3) := by decide +kernel
theorem dX9_settle_4 : decode cX9_settle 4 = .ok (.invokevirtual 310, 3) := by decide +kernel
theorem dX9_settle_7 : decode cX9_settle 7 = .ok (.aload_n 0, 1) := by decide +kernel
theorem dX9_settle_8 : decode cX9_settle 8 = .ok (.getfield 51, 3) := by decide +kernel
theorem dX9_settle_11 : decode cX9_settle 11 = .ok (.invokevirtual 313, 3) := by decide +kernel
theorem dX9_settle_14 : decode cX9_settle 14 = .ok (.aload_n 0, 1) := by decide +kernel
theorem dX9_settle_15 : decode cX9_settle 15 = .ok (.getfield 58, 3) := by decide +kernel
theorem dX9_settle_18 : decode cX9_settle 18 = .ok (.aload_n 0, 1) := by decide +kernel
theorem dX9_settle_19 : decode cX9_settle 19 = .ok (.getfield 10, 3) := by decide +kernel
theorem dX9_settle_22 : decode cX9_settle 22 = .ok (.invokevirtual 316, 3) := by decide +kernel
theorem dX9_settle_25 : decode cX9_settle 25 = .ok (.return_, 1) := by decide +kernel
theorem dX9_requireMeasure_0 : decode cX9_requireMeasure 0 = .ok (.aload_n 0, 1) := by decide +kernel
theorem dX9_requireMeasure_1 : decode cX9_requireMeasure 1 = .ok (.getfield 10, 3) := by decide +kernel
theorem dX9_requireMeasure_4 : decode cX9_requireMeasure 4 = .ok (.iload_n 1, 1) := by decide +kernel
theorem dX9_requireMeasure_5 : decode cX9_requireMeasure 5 = .ok (.invokevirtual 319, 3) := by decide +kernel
theorem dX9_requireMeasure_8 : decode cX9_requireMeasure 8 = .ok (.ifCond .ne 14, 3) := by decide +kernel
theorem dX9_requireMeasure_11 : decode cX9_requireMeasure 11 = .ok (.new 322, 3) := by decide +kernel
theorem dX9_requireMeasure_14 : decode cX9_requireMeasure 14 = .ok (.dup, 1) := by decide +kernel
theorem dX9_requireMeasure_15 : decode cX9_requireMeasure 15 = .ok (.ldc_w 324, 3) := by decide +kernel
theorem dX9_requireMeasure_18 : decode cX9_requireMeasure 18 = .ok (.invokespecial 326, 3) := by decide +kernel
theorem dX9_requireMeasure_21 : decode cX9_requireMeasure 21 = .ok (.athrow, 1) := by decide +kernel
theorem dX9_requireMeasure_22 : decode cX9_requireMeasure 22 = .ok (.return_, 1) := by decide +kernel
theorem dX9_requireVoice_0 : decode cX9_requireVoice 0 = .ok (.aload_n 0, 1) := by decide +kernel
theorem dX9_requireVoice_1 : decode cX9_requireVoice 1 = .ok (.getfield 10, 3) := by decide +kernel
theorem dX9_requireVoice_4 : decode cX9_requireVoice 4 = .ok (.iload_n 1, 1) := by decide +kernel
theorem dX9_requireVoice_5 : decode cX9_requireVoice 5 = .ok (.iload_n 2, 1) := by decide +kernel
theorem dX9_requireVoice_6 : decode cX9_requireVoice 6 = .ok (.invokevirtual 327, 3) := by decide +kernel
theorem dX9_requireVoice_9 : decode cX9_requireVoice 9 = .ok (.ifCond .ne 14, 3) := by decide +kernel
theorem dX9_requireVoice_12 : decode cX9_requireVoice 12 = .ok (.new 322, 3) := by decide +kernel
theorem dX9_requireVoice_15 : decode cX9_requireVoice 15 = .ok (.dup, 1) := by decide +kernel
theorem dX9_requireVoice_16 : decode cX9_requireVoice 16 = .ok (.ldc_w 330, 3) := by decide +kernel
theorem dX9_requireVoice_19 : decode cX9_requireVoice 19 = .ok (.invokespecial 326, 3) := by decide +kernel
theorem dX9_requireVoice_22 : decode cX9_requireVoice 22 = .ok (.athrow, 1) := by decide +kernel
theorem dX9_requireVoice_23 : decode cX9_requireVoice 23 = .ok (.return_, 1) := by decide +kernel
theorem dX9_requireEvent_0 : decode cX9_requireEvent 0 = .ok (.aload_n 0, 1) := by decide +kernel
theorem dX9_requireEvent_1 : decode cX9_requireEvent 1 = .ok (.getfield 10, 3) := by decide +kernel
theorem dX9_requireEvent_4 : decode cX9_requireEvent 4 = .ok (.iload_n 1, 1) := by decide +kernel
theorem dX9_requireEvent_5 : decode cX9_requireEvent 5 = .ok (.iload_n 2, 1) := by decide +kernel
theorem dX9_requireEvent_6 : decode cX9_requireEvent 6 = .ok (.iload_n 3, 1) := by decide +kernel
theorem dX9_requireEvent_7 : decode cX9_requireEvent 7 = .ok (.invokevirtual 332, 3) := by decide +kernel
theorem dX9_requireEvent_10 : decode cX9_requireEvent 10 = .ok (.ifCond .ne 14, 3) := by decide +kernel
theorem dX9_requireEvent_13 : decode cX9_requireEvent 13 = .ok (.new 322, 3) := by decide +kernel
theorem dX9_requireEvent_16 : decode cX9_requireEvent 16 = .ok (.dup, 1) := by decide +kernel
theorem dX9_requireEvent_17 : decode cX9_requireEvent 17 = .ok (.ldc_w 335, 3) := by decide +kernel
theorem dX9_requireEvent_20 : decode cX9_requireEvent 20 = .ok (.invokespecial 326, 3) := by decide +kernel
theorem dX9_requireEvent_23 : decode cX9_requireEvent 23 = .ok (.athrow, 1) := by decide +kernel
theorem dX9_requireEvent_24 : decode cX9_requireEvent 24 = .ok (.return_, 1) := by decide +kernel
theorem dX9_requireRoom_0 : decode cX9_requireRoom 0 = .ok (.aload_n 0, 1) := by decide +kernel
theorem dX9_requireRoom_1 : decode cX9_requireRoom 1 = .ok (.getfield 10, 3) := by decide +kernel
theorem dX9_requireRoom_4 : decode cX9_requireRoom 4 = .ok (.iload_n 1, 1) := by decide +kernel
theorem dX9_requireRoom_5 : decode cX9_requireRoom 5 = .ok (.iload_n 2, 1) := by decide +kernel
theorem dX9_requireRoom_6 : decode cX9_requireRoom 6 = .ok (.invokevirtual 129, 3) := by decide +kernel
theorem dX9_requireRoom_9 : decode cX9_requireRoom 9 = .ok (.bipush 24, 2) := by decide +kernel
theorem dX9_requireRoom_11 : decode cX9_requireRoom 11 = .ok (.if_icmp .lt 14, 3) := by decide +kernel
theorem dX9_requireRoom_14 : decode cX9_requireRoom 14 = .ok (.new 66, 3) := by decide +kernel
theorem dX9_requireRoom_17 : decode cX9_requireRoom 17 = .ok (.dup, 1) := by decide +kernel
theorem dX9_requireRoom_18 : decode cX9_requireRoom 18 = .ok (.ldc_w 337, 3) := by decide +kernel
theorem dX9_requireRoom_21 : decode cX9_requireRoom 21 = .ok (.invokespecial 70, 3) := by decide +kernel
theorem dX9_requireRoom_24 : decode cX9_requireRoom 24 = .ok (.athrow, 1) := by decide +kernel
theorem dX9_requireRoom_25 : decode cX9_requireRoom 25 = .ok (.return_, 1) := by decide +kernel
theorem dX9_requireRange_0 : decode cX9_requireRange 0 = .ok (.iload_n 0, 1) := by decide +kernel
theorem dX9_requireRange_1 : decode cX9_requireRange 1 = .ok (.iload_n 1, 1) := by decide +kernel
theorem dX9_requireRange_2 : decode cX9_requireRange 2 = .ok (.if_icmp .lt 8, 3) := by decide +kernel
theorem dX9_requireRange_5 : decode cX9_requireRange 5 = .ok (.iload_n 0, 1) := by decide +kernel
theorem dX9_requireRange_6 : decode cX9_requireRange 6 = .ok (.iload_n 2, 1) := by decide +kernel
theorem dX9_requireRange_7 : decode cX9_requireRange 7 = .ok (.if_icmp .le 14, 3) := by decide +kernel
theorem dX9_requireRange_10 : decode cX9_requireRange 10 = .ok (.new 97, 3) := by decide +kernel
theorem dX9_requireRange_13 : decode cX9_requireRange 13 = .ok (.dup, 1) := by decide +kernel
theorem dX9_requireRange_14 : decode cX9_requireRange 14 = .ok (.ldc_w 339, 3) := by decide +kernel
theorem dX9_requireRange_17 : decode cX9_requireRange 17 = .ok (.invokespecial 101, 3) := by decide +kernel
theorem dX9_requireRange_20 : decode cX9_requireRange 20 = .ok (.athrow, 1) := by decide +kernel
theorem dX9_requireRange_21 : decode cX9_requireRange 21 = .ok (.return_, 1) := by decide +kernel
theorem dX9_requireNotNegative_0 : decode cX9_requireNotNegative 0 = .ok (.iload_n 0, 1) := by decide +kernel
theorem dX9_requireNotNegative_1 : decode cX9_requireNotNegative 1 = .ok (.ifCond .ge 14, 3) := by decide +kernel
theorem dX9_requireNotNegative_4 : decode cX9_requireNotNegative 4 = .ok (.new 97, 3) := by decide +kernel
theorem dX9_requireNotNegative_7 : decode cX9_requireNotNegative 7 = .ok (.dup, 1) := by decide +kernel
theorem dX9_requireNotNegative_8 : decode cX9_requireNotNegative 8 = .ok (.ldc_w 341, 3) := by decide +kernel
theorem dX9_requireNotNegative_11 : decode cX9_requireNotNegative 11 = .ok (.invokespecial 101, 3) := by decide +kernel
theorem dX9_requireNotNegative_14 : decode cX9_requireNotNegative 14 = .ok (.athrow, 1) := by decide +kernel
theorem dX9_requireNotNegative_15 : decode cX9_requireNotNegative 15 = .ok (.return_, 1) := by decide +kernel
theorem dJ0_length_8abf5_0 : decode cJ0_length_8abf5 0 = .ok (.aload_n 0, 1) := by decide +kernel
theorem dJ0_length_8abf5_1 : decode cJ0_length_8abf5 1 = .ok (.getfield 9, 3) := by decide +kernel
theorem dJ0_length_8abf5_4 : decode cJ0_length_8abf5 4 = .ok (.arraylength, 1) := by decide +kernel
theorem dJ0_length_8abf5_5 : decode cJ0_length_8abf5 5 = .ok (.aload_n 0, 1) := by decide +kernel
theorem dJ0_length_8abf5_6 : decode cJ0_length_8abf5 6 = .ok (.invokevirtual 335, 3) := by decide +kernel
theorem dJ0_length_8abf5_9 : decode cJ0_length_8abf5 9 = .ok (.ishr, 1) := by decide +kernel
theorem dJ0_length_8abf5_10 : decode cJ0_length_8abf5 10 = .ok (.ireturn, 1) := by decide +kernel
theorem dJ0_charAt_5068e_0 : decode cJ0_charAt_5068e 0 = .ok (.aload_n 0, 1) := by decide +kernel
theorem dJ0_charAt_5068e_1 : decode cJ0_charAt_5068e 1 = .ok (.invokevirtual 492, 3) := by decide +kernel
theorem dJ0_charAt_5068e_4 : decode cJ0_charAt_5068e 4 = .ok (.ifCond .eq 12, 3) := by decide +kernel
theorem dJ0_charAt_5068e_7 : decode cJ0_charAt_5068e 7 = .ok (.aload_n 0, 1) := by decide +kernel
theorem dJ0_charAt_5068e_8 : decode cJ0_charAt_5068e 8 = .ok (.getfield 9, 3) := by decide +kernel
theorem dJ0_charAt_5068e_11 : decode cJ0_charAt_5068e 11 = .ok (.iload_n 1, 1) := by decide +kernel
theorem dJ0_charAt_5068e_12 : decode cJ0_charAt_5068e 12 = .ok (.invokestatic 495, 3) := by decide +kernel
theorem dJ0_charAt_5068e_15 : decode cJ0_charAt_5068e 15 = .ok (.ireturn, 1) := by decide +kernel
theorem dJ0_charAt_5068e_16 : decode cJ0_charAt_5068e 16 = .ok (.aload_n 0, 1) := by decide +kernel
theorem dJ0_charAt_5068e_17 : decode cJ0_charAt_5068e 17 = .ok (.getfield 9, 3) := by decide +kernel
theorem dJ0_charAt_5068e_20 : decode cJ0_charAt_5068e 20 = .ok (.iload_n 1, 1) := by decide +kernel
theorem dJ0_charAt_5068e_21 : decode cJ0_charAt_5068e 21 = .ok (.invokestatic 498, 3) := by decide +kernel
theorem dJ0_charAt_5068e_24 : decode cJ0_charAt_5068e 24 = .ok (.ireturn, 1) := by decide +kernel
theorem dJ0_indexOf_0f7a4_0 : decode cJ0_indexOf_0f7a4 0 = .ok (.aload_n 0, 1) := by decide +kernel
theorem dJ0_indexOf_0f7a4_1 : decode cJ0_indexOf_0f7a4 1 = .ok (.iload_n 1, 1) := by decide +kernel
theorem dJ0_indexOf_0f7a4_2 : decode cJ0_indexOf_0f7a4 2 = .ok (.iconst 0, 1) := by decide +kernel
theorem dJ0_indexOf_0f7a4_3 : decode cJ0_indexOf_0f7a4 3 = .ok (.invokevirtual 633, 3) := by decide +kernel
theorem dJ0_indexOf_0f7a4_6 : decode cJ0_indexOf_0f7a4 6 = .ok (.ireturn, 1) := by decide +kernel
theorem dJ0_indexOf_7cf53_0 : decode cJ0_indexOf_7cf53 0 = .ok (.aload_n 0, 1) := by decide +kernel
theorem dJ0_indexOf_7cf53_1 : decode cJ0_indexOf_7cf53 1 = .ok (.invokevirtual 492, 3) := by decide +kernel
theorem dJ0_indexOf_7cf53_4 : decode cJ0_indexOf_7cf53 4 = .ok (.ifCond .eq 19, 3) := by decide +kernel
theorem dJ0_indexOf_7cf53_7 : decode cJ0_indexOf_7cf53 7 = .ok (.aload_n 0, 1) := by decide +kernel
theorem dJ0_indexOf_7cf53_8 : decode cJ0_indexOf_7cf53 8 = .ok (.getfield 9, 3) := by decide +kernel
theorem dJ0_indexOf_7cf53_11 : decode cJ0_indexOf_7cf53 11 = .ok (.iload_n 1, 1) := by decide +kernel
theorem dJ0_indexOf_7cf53_12 : decode cJ0_indexOf_7cf53 12 = .ok (.iload_n 2, 1) := by decide +kernel
theorem dJ0_indexOf_7cf53_13 : decode cJ0_indexOf_7cf53 13 = .ok (.aload_n 0, 1) := by decide +kernel
theorem dJ0_indexOf_7cf53_14 : decode cJ0_indexOf_7cf53 14 = .ok (.invokevirtual 505, 3) := by decide +kernel
theorem dJ0_indexOf_7cf53_17 : decode cJ0_indexOf_7cf53 17 = .ok (.invokestatic 637, 3) := by decide +kernel
theorem dJ0_indexOf_7cf53_20 : decode cJ0_indexOf_7cf53 20 = .ok (.goto 16, 3) := by decide +kernel
theorem dJ0_indexOf_7cf53_23 : decode cJ0_indexOf_7cf53 23 = .ok (.aload_n 0, 1) := by decide +kernel
theorem dJ0_indexOf_7cf53_24 : decode cJ0_indexOf_7cf53 24 = .ok (.getfield 9, 3) := by decide +kernel
theorem dJ0_indexOf_7cf53_27 : decode cJ0_indexOf_7cf53 27 = .ok (.iload_n 1, 1) := by decide +kernel
theorem dJ0_indexOf_7cf53_28 : decode cJ0_indexOf_7cf53 28 = .ok (.iload_n 2, 1) := by decide +kernel
theorem dJ0_indexOf_7cf53_29 : decode cJ0_indexOf_7cf53 29 = .ok (.aload_n 0, 1) := by decide +kernel
theorem dJ0_indexOf_7cf53_30 : decode cJ0_indexOf_7cf53 30 = .ok (.invokevirtual 505, 3) := by decide +kernel
theorem dJ0_indexOf_7cf53_33 : decode cJ0_indexOf_7cf53 33 = .ok (.invokestatic 640, 3) := by decide +kernel
theorem dJ0_indexOf_7cf53_36 : decode cJ0_indexOf_7cf53 36 = .ok (.ireturn, 1) := by decide +kernel
theorem dJ0_coder_7d493_0 : decode cJ0_coder_7d493 0 = .ok (.getstatic 38, 3) := by decide +kernel
theorem dJ0_coder_7d493_3 : decode cJ0_coder_7d493 3 = .ok (.ifCond .eq 10, 3) := by decide +kernel
theorem dJ0_coder_7d493_6 : decode cJ0_coder_7d493 6 = .ok (.aload_n 0, 1) := by decide +kernel
theorem dJ0_coder_7d493_7 : decode cJ0_coder_7d493 7 = .ok (.getfield 15, 3) := by decide +kernel
theorem dJ0_coder_7d493_10 : decode cJ0_coder_7d493 10 = .ok (.goto 4, 3) := by decide +kernel
theorem dJ0_coder_7d493_13 : decode cJ0_coder_7d493 13 = .ok (.iconst 1, 1) := by decide +kernel
theorem dJ0_coder_7d493_14 : decode cJ0_coder_7d493 14 = .ok (.ireturn, 1) := by decide +kernel
theorem dJ0_isLatin1_aae02_0 : decode cJ0_isLatin1_aae02 0 = .ok (.getstatic 38, 3) := by decide +kernel
theorem dJ0_isLatin1_aae02_3 : decode cJ0_isLatin1_aae02 3 = .ok (.ifCond .eq 14, 3) := by decide +kernel
theorem dJ0_isLatin1_aae02_6 : decode cJ0_isLatin1_aae02 6 = .ok (.aload_n 0, 1) := by decide +kernel
theorem dJ0_isLatin1_aae02_7 : decode cJ0_isLatin1_aae02 7 = .ok (.getfield 15, 3) := by decide +kernel
theorem dJ0_isLatin1_aae02_10 : decode cJ0_isLatin1_aae02 10 = .ok (.ifCond .ne 7, 3) := by decide +kernel
theorem dJ0_isLatin1_aae02_13 : decode cJ0_isLatin1_aae02 13 = .ok (.iconst 1, 1) := by decide +kernel
theorem dJ0_isLatin1_aae02_14 : decode cJ0_isLatin1_aae02 14 = .ok (.goto 4, 3) := by decide +kernel
theorem dJ0_isLatin1_aae02_17 : decode cJ0_isLatin1_aae02 17 = .ok (.iconst 0, 1) := by decide +kernel
theorem dJ0_isLatin1_aae02_18 : decode cJ0_isLatin1_aae02 18 = .ok (.ireturn, 1) := by decide +kernel
theorem dJ0_checkIndex_df160_0 : decode cJ0_checkIndex_df160 0 = .ok (.iload_n 0, 1) := by decide +kernel
theorem dJ0_checkIndex_df160_1 : decode cJ0_checkIndex_df160 1 = .ok (.iload_n 1, 1) := by decide +kernel
theorem dJ0_checkIndex_df160_2 : decode cJ0_checkIndex_df160 2 = .ok (.getstatic 1053, 3) := by decide +kernel
theorem dJ0_checkIndex_df160_5 : decode cJ0_checkIndex_df160 5 = .ok (.invokestatic 1059, 3) := by decide +kernel
theorem dJ0_checkIndex_df160_8 : decode cJ0_checkIndex_df160 8 = .ok (.pop, 1) := by decide +kernel
theorem dJ0_checkIndex_df160_9 : decode cJ0_checkIndex_df160 9 = .ok (.return_, 1) := by decide +kernel
theorem dJ1_charAt_3b067_0 : decode cJ1_charAt_3b067 0 = .ok (.iload_n 1, 1) := by decide +kernel
theorem dJ1_charAt_3b067_1 : decode cJ1_charAt_3b067 1 = .ok (.aload_n 0, 1) := by decide +kernel
theorem dJ1_charAt_3b067_2 : decode cJ1_charAt_3b067 2 = .ok (.arraylength, 1) := by decide +kernel
theorem dJ1_charAt_3b067_3 : decode cJ1_charAt_3b067 3 = .ok (.invokestatic 9, 3) := by decide +kernel
theorem dJ1_charAt_3b067_6 : decode cJ1_charAt_3b067 6 = .ok (.aload_n 0, 1) := by decide +kernel
theorem dJ1_charAt_3b067_7 : decode cJ1_charAt_3b067 7 = .ok (.iload_n 1, 1) := by decide +kernel
theorem dJ1_charAt_3b067_8 : decode cJ1_charAt_3b067 8 = .ok (.baload, 1) := by decide +kernel
theorem dJ1_charAt_3b067_9 : decode cJ1_charAt_3b067 9 = .ok (.sipush 255, 3) := by decide +kernel
theorem dJ1_charAt_3b067_12 : decode cJ1_charAt_3b067 12 = .ok (.iand, 1) := by decide +kernel
theorem dJ1_charAt_3b067_13 : decode cJ1_charAt_3b067 13 = .ok (.i2c, 1) := by decide +kernel
theorem dJ1_charAt_3b067_14 : decode cJ1_charAt_3b067 14 = .ok (.ireturn, 1) := by decide +kernel
theorem dJ1_canEncode_9a6ad_0 : decode cJ1_canEncode_9a6ad 0 = .ok (.iload_n 0, 1) := by decide +kernel
theorem dJ1_canEncode_9a6ad_1 : decode cJ1_canEncode_9a6ad 1 = .ok (.ifCond .lt 14, 3) := by decide +kernel
theorem dJ1_canEncode_9a6ad_4 : decode cJ1_canEncode_9a6ad 4 = .ok (.iload_n 0, 1) := by decide +kernel
theorem dJ1_canEncode_9a6ad_5 : decode cJ1_canEncode_9a6ad 5 = .ok (.sipush 255, 3) := by decide +kernel
theorem dJ1_canEncode_9a6ad_8 : decode cJ1_canEncode_9a6ad 8 = .ok (.if_icmp .gt 7, 3) := by decide +kernel
theorem dJ1_canEncode_9a6ad_11 : decode cJ1_canEncode_9a6ad 11 = .ok (.iconst 1, 1) := by decide +kernel
theorem dJ1_canEncode_9a6ad_12 : decode cJ1_canEncode_9a6ad 12 = .ok (.goto 4, 3) := by decide +kernel
theorem dJ1_canEncode_9a6ad_15 : decode cJ1_canEncode_9a6ad 15 = .ok (.iconst 0, 1) := by decide +kernel
theorem dJ1_canEncode_9a6ad_16 : decode cJ1_canEncode_9a6ad 16 = .ok (.ireturn, 1) := by decide +kernel
theorem dJ1_indexOf_4cfef_0 : decode cJ1_indexOf_4cfef 0 = .ok (.iload_n 1, 1) := by decide +kernel
theorem dJ1_indexOf_4cfef_1 : decode cJ1_indexOf_4cfef 1 = .ok (.invokestatic 88, 3) := by decide +kernel
theorem dJ1_indexOf_4cfef_4 : decode cJ1_indexOf_4cfef 4 = .ok (.ifCond .ne 5, 3) := by decide +kernel
theorem dJ1_indexOf_4cfef_7 : decode cJ1_indexOf_4cfef 7 = .ok (.iconst (-1), 1) := by decide +kernel
theorem dJ1_indexOf_4cfef_8 : decode cJ1_indexOf_4cfef 8 = .ok (.ireturn, 1) := by decide +kernel
theorem dJ1_indexOf_4cfef_9 : decode cJ1_indexOf_4cfef 9 = .ok (.iload_n 2, 1) := by decide +kernel
theorem dJ1_indexOf_4cfef_10 : decode cJ1_indexOf_4cfef 10 = .ok (.iconst 0, 1) := by decide +kernel
theorem dJ1_indexOf_4cfef_11 : decode cJ1_indexOf_4cfef 11 = .ok (.invokestatic 92, 3) := by decide +kernel
theorem dJ1_indexOf_4cfef_14 : decode cJ1_indexOf_4cfef 14 = .ok (.istore_n 2, 1) := by decide +kernel
theorem dJ1_indexOf_4cfef_15 : decode cJ1_indexOf_4cfef 15 = .ok (.iload_n 3, 1) := by decide +kernel
theorem dJ1_indexOf_4cfef_16 : decode cJ1_indexOf_4cfef 16 = .ok (.aload_n 0, 1) := by decide +kernel
theorem dJ1_indexOf_4cfef_17 : decode cJ1_indexOf_4cfef 17 = .ok (.arraylength, 1) := by decide +kernel
theorem dJ1_indexOf_4cfef_18 : decode cJ1_indexOf_4cfef 18 = .ok (.invokestatic 38, 3) := by decide +kernel
theorem dJ1_indexOf_4cfef_21 : decode cJ1_indexOf_4cfef 21 = .ok (.istore_n 3, 1) := by decide +kernel
theorem dJ1_indexOf_4cfef_22 : decode cJ1_indexOf_4cfef 22 = .ok (.iload_n 2, 1) := by decide +kernel
theorem dJ1_indexOf_4cfef_23 : decode cJ1_indexOf_4cfef 23 = .ok (.iload_n 3, 1) := by decide +kernel
theorem dJ1_indexOf_4cfef_24 : decode cJ1_indexOf_4cfef 24 = .ok (.if_icmp .lt 5, 3) := by decide +kernel
theorem dJ1_indexOf_4cfef_27 : decode cJ1_indexOf_4cfef 27 = .ok (.iconst (-1), 1) := by decide +kernel
theorem dJ1_indexOf_4cfef_28 : decode cJ1_indexOf_4cfef 28 = .ok (.ireturn, 1) := by decide +kernel
theorem dJ1_indexOf_4cfef_29 : decode cJ1_indexOf_4cfef 29 = .ok (.aload_n 0, 1) := by decide +kernel
theorem dJ1_indexOf_4cfef_30 : decode cJ1_indexOf_4cfef 30 = .ok (.iload_n 1, 1) := by decide +kernel
theorem dJ1_indexOf_4cfef_31 : decode cJ1_indexOf_4cfef 31 = .ok (.iload_n 2, 1) := by decide +kernel
theorem dJ1_indexOf_4cfef_32 : decode cJ1_indexOf_4cfef 32 = .ok (.iload_n 3, 1) := by decide +kernel
theorem dJ1_indexOf_4cfef_33 : decode cJ1_indexOf_4cfef 33 = .ok (.invokestatic 95, 3) := by decide +kernel
theorem dJ1_indexOf_4cfef_36 : decode cJ1_indexOf_4cfef 36 = .ok (.ireturn, 1) := by decide +kernel
theorem dJ1_indexOfChar_4cfef_0 : decode cJ1_indexOfChar_4cfef 0 = .ok (.iload_n 1, 1) := by decide +kernel
theorem dJ1_indexOfChar_4cfef_1 : decode cJ1_indexOfChar_4cfef 1 = .ok (.i2b, 1) := by decide +kernel
theorem dJ1_indexOfChar_4cfef_2 : decode cJ1_indexOfChar_4cfef 2 = .ok (.istore 4, 2) := by decide +kernel
theorem dJ1_indexOfChar_4cfef_4 : decode cJ1_indexOfChar_4cfef 4 = .ok (.iload_n 2, 1) := by decide +kernel
theorem dJ1_indexOfChar_4cfef_5 : decode cJ1_indexOfChar_4cfef 5 = .ok (.istore 5, 2) := by decide +kernel
theorem dJ1_indexOfChar_4cfef_7 : decode cJ1_indexOfChar_4cfef 7 = .ok (.iload 5, 2) := by decide +kernel
theorem dJ1_indexOfChar_4cfef_9 : decode cJ1_indexOfChar_4cfef 9 = .ok (.iload_n 3, 1) := by decide +kernel
theorem dJ1_indexOfChar_4cfef_10 : decode cJ1_indexOfChar_4cfef 10 = .ok (.if_icmp .ge 21, 3) := by decide +kernel
theorem dJ1_indexOfChar_4cfef_13 : decode cJ1_indexOfChar_4cfef 13 = .ok (.aload_n 0, 1) := by decide +kernel
theorem dJ1_indexOfChar_4cfef_14 : decode cJ1_indexOfChar_4cfef 14 = .ok (.iload 5, 2) := by decide +kernel
theorem dJ1_indexOfChar_4cfef_16 : decode cJ1_indexOfChar_4cfef 16 = .ok (.baload, 1) := by decide +kernel
theorem dJ1_indexOfChar_4cfef_17 : decode cJ1_indexOfChar_4cfef 17 = .ok (.iload 4, 2) := by decide +kernel
theorem dJ1_indexOfChar_4cfef_19 : decode cJ1_indexOfChar_4cfef 19 = .ok (.if_icmp .ne 6, 3) := by decide +kernel
theorem dJ1_indexOfChar_4cfef_22 : decode cJ1_indexOfChar_4cfef 22 = .ok (.iload 5, 2) := by decide +kernel
theorem dJ1_indexOfChar_4cfef_24 : decode cJ1_indexOfChar_4cfef 24 = .ok (.ireturn, 1) := by decide +kernel
theorem dJ1_indexOfChar_4cfef_25 : decode cJ1_indexOfChar_4cfef 25 = .ok (.iinc 5 1, 3) := by decide +kernel
theorem dJ1_indexOfChar_4cfef_28 : decode cJ1_indexOfChar_4cfef 28 = .ok (.goto (-21), 3) := by decide +kernel
theorem dJ1_indexOfChar_4cfef_31 : decode cJ1_indexOfChar_4cfef 31 = .ok (.iconst (-1), 1) := by decide +kernel
theorem dJ1_indexOfChar_4cfef_32 : decode cJ1_indexOfChar_4cfef 32 = .ok (.ireturn, 1) := by decide +kernel
theorem dJ7_rangeCheck_23922_0 : decode cJ7_rangeCheck_23922 0 = .ok (.iload_n 1, 1) := by decide +kernel
theorem dJ7_rangeCheck_23922_1 : decode cJ7_rangeCheck_23922 1 = .ok (.iload_n 2, 1) := by decide +kernel
theorem dJ7_rangeCheck_23922_2 : decode cJ7_rangeCheck_23922 2 = .ok (.if_icmp .le 44, 3) := by decide +kernel
theorem dJ7_rangeCheck_23922_5 : decode cJ7_rangeCheck_23922 5 = .ok (.new 43, 3) := by decide +kernel
theorem dJ7_rangeCheck_23922_8 : decode cJ7_rangeCheck_23922 8 = .ok (.dup, 1) := by decide +kernel
theorem dJ7_rangeCheck_23922_9 : decode cJ7_rangeCheck_23922 9 = .ok (.new 45, 3) := by decide +kernel
theorem dJ7_rangeCheck_23922_12 : decode cJ7_rangeCheck_23922 12 = .ok (.dup, 1) := by decide +kernel
theorem dJ7_rangeCheck_23922_13 : decode cJ7_rangeCheck_23922 13 = .ok (.invokespecial 47, 3) := by decide +kernel
theorem dJ7_rangeCheck_23922_16 : decode cJ7_rangeCheck_23922 16 = .ok (.ldc 48, 2) := by decide +kernel
theorem dJ7_rangeCheck_23922_18 : decode cJ7_rangeCheck_23922 18 = .ok (.invokevirtual 50, 3) := by decide +kernel
theorem dJ7_rangeCheck_23922_21 : decode cJ7_rangeCheck_23922 21 = .ok (.iload_n 1, 1) := by decide +kernel
theorem dJ7_rangeCheck_23922_22 : decode cJ7_rangeCheck_23922 22 = .ok (.invokevirtual 54, 3) := by decide +kernel
theorem dJ7_rangeCheck_23922_25 : decode cJ7_rangeCheck_23922 25 = .ok (.ldc 57, 2) := by decide +kernel
theorem dJ7_rangeCheck_23922_27 : decode cJ7_rangeCheck_23922 27 = .ok (.invokevirtual 50, 3) := by decide +kernel
theorem dJ7_rangeCheck_23922_30 : decode cJ7_rangeCheck_23922 30 = .ok (.iload_n 2, 1) := by decide +kernel
theorem dJ7_rangeCheck_23922_31 : decode cJ7_rangeCheck_23922 31 = .ok (.invokevirtual 54, 3) := by decide +kernel
theorem dJ7_rangeCheck_23922_34 : decode cJ7_rangeCheck_23922 34 = .ok (.ldc 59, 2) := by decide +kernel
theorem dJ7_rangeCheck_23922_36 : decode cJ7_rangeCheck_23922 36 = .ok (.invokevirtual 50, 3) := by decide +kernel
theorem dJ7_rangeCheck_23922_39 : decode cJ7_rangeCheck_23922 39 = .ok (.invokevirtual 61, 3) := by decide +kernel
theorem dJ7_rangeCheck_23922_42 : decode cJ7_rangeCheck_23922 42 = .ok (.invokespecial 65, 3) := by decide +kernel
theorem dJ7_rangeCheck_23922_45 : decode cJ7_rangeCheck_23922 45 = .ok (.athrow, 1) := by decide +kernel
theorem dJ7_rangeCheck_23922_46 : decode cJ7_rangeCheck_23922 46 = .ok (.iload_n 1, 1) := by decide +kernel
theorem dJ7_rangeCheck_23922_47 : decode cJ7_rangeCheck_23922 47 = .ok (.ifCond .ge 12, 3) := by decide +kernel
theorem dJ7_rangeCheck_23922_50 : decode cJ7_rangeCheck_23922 50 = .ok (.new 68, 3) := by decide +kernel
theorem dJ7_rangeCheck_23922_53 : decode cJ7_rangeCheck_23922 53 = .ok (.dup, 1) := by decide +kernel
theorem dJ7_rangeCheck_23922_54 : decode cJ7_rangeCheck_23922 54 = .ok (.iload_n 1, 1) := by decide +kernel
theorem dJ7_rangeCheck_23922_55 : decode cJ7_rangeCheck_23922 55 = .ok (.invokespecial 70, 3) := by decide +kernel
theorem dJ7_rangeCheck_23922_58 : decode cJ7_rangeCheck_23922 58 = .ok (.athrow, 1) := by decide +kernel
theorem dJ7_rangeCheck_23922_59 : decode cJ7_rangeCheck_23922 59 = .ok (.iload_n 2, 1) := by decide +kernel
theorem dJ7_rangeCheck_23922_60 : decode cJ7_rangeCheck_23922 60 = .ok (.iload_n 0, 1) := by decide +kernel
theorem dJ7_rangeCheck_23922_61 : decode cJ7_rangeCheck_23922 61 = .ok (.if_icmp .le 12, 3) := by decide +kernel
theorem dJ7_rangeCheck_23922_64 : decode cJ7_rangeCheck_23922 64 = .ok (.new 68, 3) := by decide +kernel
theorem dJ7_rangeCheck_23922_67 : decode cJ7_rangeCheck_23922 67 = .ok (.dup, 1) := by decide +kernel
theorem dJ7_rangeCheck_23922_68 : decode cJ7_rangeCheck_23922 68 = .ok (.iload_n 2, 1) := by decide +kernel
theorem dJ7_rangeCheck_23922_69 : decode cJ7_rangeCheck_23922 69 = .ok (.invokespecial 70, 3) := by decide +kernel
theorem dJ7_rangeCheck_23922_72 : decode cJ7_rangeCheck_23922 72 = .ok (.athrow, 1) := by decide +kernel
theorem dJ7_rangeCheck_23922_73 : decode cJ7_rangeCheck_23922 73 = .ok (.return_, 1) := by decide +kernel
theorem dJ7_fill_fda19_0 : decode cJ7_fill_fda19 0 = .ok (.aload_n 0, 1) := by decide +kernel
theorem dJ7_fill_fda19_1 : decode cJ7_fill_fda19 1 = .ok (.arraylength, 1) := by decide +kernel
theorem dJ7_fill_fda19_2 : decode cJ7_fill_fda19 2 = .ok (.iload_n 1, 1) := by decide +kernel
theorem dJ7_fill_fda19_3 : decode cJ7_fill_fda19 3 = .ok (.iload_n 2, 1) := by decide +kernel
theorem dJ7_fill_fda19_4 : decode cJ7_fill_fda19 4 = .ok (.invokestatic 13, 3) := by decide +kernel
theorem dJ7_fill_fda19_7 : decode cJ7_fill_fda19 7 = .ok (.iload_n 1, 1) := by decide +kernel
theorem dJ7_fill_fda19_8 : decode cJ7_fill_fda19 8 = .ok (.istore 4, 2) := by decide +kernel
theorem dJ7_fill_fda19_10 : decode cJ7_fill_fda19 10 = .ok (.iload 4, 2) := by decide +kernel
theorem dJ7_fill_fda19_12 : decode cJ7_fill_fda19 12 = .ok (.iload_n 2, 1) := by decide +kernel
theorem dJ7_fill_fda19_13 : decode cJ7_fill_fda19 13 = .ok (.if_icmp .ge 14, 3) := by decide +kernel
theorem dJ7_fill_fda19_16 : decode cJ7_fill_fda19 16 = .ok (.aload_n 0, 1) := by decide +kernel
theorem dJ7_fill_fda19_17 : decode cJ7_fill_fda19 17 = .ok (.iload 4, 2) := by decide +kernel
theorem dJ7_fill_fda19_19 : decode cJ7_fill_fda19 19 = .ok (.iload_n 3, 1) := by decide +kernel
theorem dJ7_fill_fda19_20 : decode cJ7_fill_fda19 20 = .ok (.iastore, 1) := by decide +kernel
theorem dJ7_fill_fda19_21 : decode cJ7_fill_fda19 21 = .ok (.iinc 4 1, 3) := by decide +kernel
theorem dJ7_fill_fda19_24 : decode cJ7_fill_fda19 24 = .ok (.goto (-14), 3) := by decide +kernel
theorem dJ7_fill_fda19_27 : decode cJ7_fill_fda19 27 = .ok (.return_, 1) := by decide +kernel
theorem dJ3_checkIndex_8e157_0 : decode cJ3_checkIndex_8e157 0 = .ok (.iload_n 0, 1) := by decide +kernel
theorem dJ3_checkIndex_8e157_1 : decode cJ3_checkIndex_8e157 1 = .ok (.ifCond .lt 8, 3) := by decide +kernel
theorem dJ3_checkIndex_8e157_4 : decode cJ3_checkIndex_8e157 4 = .ok (.iload_n 0, 1) := by decide +kernel
theorem dJ3_checkIndex_8e157_5 : decode cJ3_checkIndex_8e157 5 = .ok (.iload_n 1, 1) := by decide +kernel
theorem dJ3_checkIndex_8e157_6 : decode cJ3_checkIndex_8e157 6 = .ok (.if_icmp .lt 10, 3) := by decide +kernel
theorem dJ3_checkIndex_8e157_9 : decode cJ3_checkIndex_8e157 9 = .ok (.aload_n 2, 1) := by decide +kernel
theorem dJ3_checkIndex_8e157_10 : decode cJ3_checkIndex_8e157 10 = .ok (.iload_n 0, 1) := by decide +kernel
theorem dJ3_checkIndex_8e157_11 : decode cJ3_checkIndex_8e157 11 = .ok (.iload_n 1, 1) := by decide +kernel
theorem dJ3_checkIndex_8e157_12 : decode cJ3_checkIndex_8e157 12 = .ok (.invokestatic 95, 3) := by decide +kernel
theorem dJ3_checkIndex_8e157_15 : decode cJ3_checkIndex_8e157 15 = .ok (.athrow, 1) := by decide +kernel
theorem dJ3_checkIndex_8e157_16 : decode cJ3_checkIndex_8e157 16 = .ok (.iload_n 0, 1) := by decide +kernel
theorem dJ3_checkIndex_8e157_17 : decode cJ3_checkIndex_8e157 17 = .ok (.ireturn, 1) := by decide +kernel
theorem dL_part_0 : decode cL_part 0 = .ok (.iload_n 0, 1) := by decide +kernel
theorem dL_part_1 : decode cL_part 1 = .ok (.ldc 7, 2) := by decide +kernel
theorem dL_part_3 : decode cL_part 3 = .ok (.iand, 1) := by decide +kernel
theorem dL_part_4 : decode cL_part 4 = .ok (.iload_n 1, 1) := by decide +kernel
theorem dL_part_5 : decode cL_part 5 = .ok (.irem, 1) := by decide +kernel
theorem dL_part_6 : decode cL_part 6 = .ok (.ireturn, 1) := by decide +kernel
theorem dL_take_0 : decode cL_take 0 = .ok (.aload_n 0, 1) := by decide +kernel
theorem dL_take_1 : decode cL_take 1 = .ok (.arraylength, 1) := by decide +kernel
theorem dL_take_2 : decode cL_take 2 = .ok (.ifCond .ne 13, 3) := by decide +kernel
theorem dL_take_5 : decode cL_take 5 = .ok (.sipush 7919, 3) := by decide +kernel
theorem dL_take_8 : decode cL_take 8 = .ok (.iload_n 1, 1) := by decide +kernel
theorem dL_take_9 : decode cL_take 9 = .ok (.imul, 1) := by decide +kernel
theorem dL_take_10 : decode cL_take 10 = .ok (.iconst 3, 1) := by decide +kernel
theorem dL_take_11 : decode cL_take 11 = .ok (.iadd, 1) := by decide +kernel
theorem dL_take_12 : decode cL_take 12 = .ok (.goto 27, 3) := by decide +kernel
theorem dL_take_15 : decode cL_take 15 = .ok (.aload_n 0, 1) := by decide +kernel
theorem dL_take_16 : decode cL_take 16 = .ok (.iload_n 1, 1) := by decide +kernel
theorem dL_take_17 : decode cL_take 17 = .ok (.aload_n 0, 1) := by decide +kernel
theorem dL_take_18 : decode cL_take 18 = .ok (.arraylength, 1) := by decide +kernel
theorem dL_take_19 : decode cL_take 19 = .ok (.irem, 1) := by decide +kernel
theorem dL_take_20 : decode cL_take 20 = .ok (.iaload, 1) := by decide +kernel
theorem dL_take_21 : decode cL_take 21 = .ok (.iload_n 1, 1) := by decide +kernel
theorem dL_take_22 : decode cL_take 22 = .ok (.bipush 7, 2) := by decide +kernel
theorem dL_take_24 : decode cL_take 24 = .ok (.irem, 1) := by decide +kernel
theorem dL_take_25 : decode cL_take 25 = .ok (.ishr, 1) := by decide +kernel
theorem dL_take_26 : decode cL_take 26 = .ok (.iload_n 1, 1) := by decide +kernel
theorem dL_take_27 : decode cL_take 27 = .ok (.aload_n 0, 1) := by decide +kernel
theorem dL_take_28 : decode cL_take 28 = .ok (.arraylength, 1) := by decide +kernel
theorem dL_take_29 : decode cL_take 29 = .ok (.idiv, 1) := by decide +kernel
theorem dL_take_30 : decode cL_take 30 = .ok (.bipush 31, 2) := by decide +kernel
theorem dL_take_32 : decode cL_take 32 = .ok (.imul, 1) := by decide +kernel
theorem dL_take_33 : decode cL_take 33 = .ok (.ixor, 1) := by decide +kernel
theorem dL_take_34 : decode cL_take 34 = .ok (.iload_n 1, 1) := by decide +kernel
theorem dL_take_35 : decode cL_take 35 = .ok (.ldc 8, 2) := by decide +kernel
theorem dL_take_37 : decode cL_take 37 = .ok (.imul, 1) := by decide +kernel
theorem dL_take_38 : decode cL_take 38 = .ok (.ixor, 1) := by decide +kernel
theorem dL_take_39 : decode cL_take 39 = .ok (.ireturn, 1) := by decide +kernel
theorem dL_adding_0 : decode cL_adding 0 = .ok (.aload_n 0, 1) := by decide +kernel
theorem dL_adding_1 : decode cL_adding 1 = .ok (.invokevirtual 9, 3) := by decide +kernel
theorem dL_adding_4 : decode cL_adding 4 = .ok (.ireturn, 1) := by decide +kernel
theorem dL_adding_5 : decode cL_adding 5 = .ok (.astore_n 1, 1) := by decide +kernel
theorem dL_adding_6 : decode cL_adding 6 = .ok (.iconst (-1), 1) := by decide +kernel
theorem dL_adding_7 : decode cL_adding 7 = .ok (.ireturn, 1) := by decide +kernel
theorem dL_removing_0 : decode cL_removing 0 = .ok (.aload_n 0, 1) := by decide +kernel
theorem dL_removing_1 : decode cL_removing 1 = .ok (.iload_n 1, 1) := by decide +kernel
theorem dL_removing_2 : decode cL_removing 2 = .ok (.invokevirtual 17, 3) := by decide +kernel
theorem dL_removing_5 : decode cL_removing 5 = .ok (.ireturn, 1) := by decide +kernel
theorem dL_removing_6 : decode cL_removing 6 = .ok (.astore_n 2, 1) := by decide +kernel
theorem dL_removing_7 : decode cL_removing 7 = .ok (.iconst (-1), 1) := by decide +kernel
theorem dL_removing_8 : decode cL_removing 8 = .ok (.ireturn, 1) := by decide +kernel
theorem dL_setting_0 : decode cL_setting 0 = .ok (.aload_n 0, 1) := by decide +kernel
theorem dL_setting_1 : decode cL_setting 1 = .ok (.iload_n 1, 1) := by decide +kernel
theorem dL_setting_2 : decode cL_setting 2 = .ok (.iload_n 2, 1) := by decide +kernel
theorem dL_setting_3 : decode cL_setting 3 = .ok (.iload_n 3, 1) := by decide +kernel
theorem dL_setting_4 : decode cL_setting 4 = .ok (.invokevirtual 23, 3) := by decide +kernel
theorem dL_setting_7 : decode cL_setting 7 = .ok (.ireturn, 1) := by decide +kernel
theorem dL_setting_8 : decode cL_setting 8 = .ok (.astore 4, 2) := by decide +kernel
theorem dL_setting_10 : decode cL_setting 10 = .ok (.sipush (-2001), 3) := by decide +kernel
theorem dL_setting_13 : decode cL_setting 13 = .ok (.ireturn, 1) := by decide +kernel
theorem dL_setting_14 : decode cL_setting 14 = .ok (.astore 4, 2) := by decide +kernel
theorem dL_setting_16 : decode cL_setting 16 = .ok (.sipush (-2002), 3) := by decide +kernel
theorem dL_setting_19 : decode cL_setting 19 = .ok (.ireturn, 1) := by decide +kernel
theorem dL_noting_0 : decode cL_noting 0 = .ok (.aload_n 0, 1) := by decide +kernel
theorem dL_noting_1 : decode cL_noting 1 = .ok (.iload_n 1, 1) := by decide +kernel
theorem dL_noting_2 : decode cL_noting 2 = .ok (.iload_n 2, 1) := by decide +kernel
theorem dL_noting_3 : decode cL_noting 3 = .ok (.iload_n 3, 1) := by decide +kernel
theorem dL_noting_4 : decode cL_noting 4 = .ok (.iload 4, 2) := by decide +kernel
theorem dL_noting_6 : decode cL_noting 6 = .ok (.iload 5, 2) := by decide +kernel
theorem dL_noting_8 : decode cL_noting 8 = .ok (.iconst 1, 1) := by decide +kernel
theorem dL_noting_9 : decode cL_noting 9 = .ok (.invokevirtual 29, 3) := by decide +kernel
theorem dL_noting_12 : decode cL_noting 12 = .ok (.ireturn, 1) := by decide +kernel
theorem dL_noting_13 : decode cL_noting 13 = .ok (.astore 6, 2) := by decide +kernel
theorem dL_noting_15 : decode cL_noting 15 = .ok (.iconst (-1), 1) := by decide +kernel
theorem dL_noting_16 : decode cL_noting 16 = .ok (.ireturn, 1) := by decide +kernel
theorem dL_noting_17 : decode cL_noting 17 = .ok (.astore 6, 2) := by decide +kernel
theorem dL_noting_19 : decode cL_noting 19 = .ok (.bipush (-2), 2) := by decide +kernel
theorem dL_noting_21 : decode cL_noting 21 = .ok (.ireturn, 1) := by decide +kernel
theorem dL_noting_22 : decode cL_noting 22 = .ok (.astore 6, 2) := by decide +kernel
theorem dL_noting_24 : decode cL_noting 24 = .ok (.bipush (-3), 2) := by decide +kernel
theorem dL_noting_26 : decode cL_noting 26 = .ok (.ireturn, 1) := by decide +kernel
theorem dL_resting_0 : decode cL_resting 0 = .ok (.aload_n 0, 1) := by decide +kernel
theorem dL_resting_1 : decode cL_resting 1 = .ok (.iload_n 1, 1) := by decide +kernel
theorem dL_resting_2 : decode cL_resting 2 = .ok (.iload_n 2, 1) := by decide +kernel
theorem dL_resting_3 : decode cL_resting 3 = .ok (.iload_n 3, 1) := by decide +kernel
theorem dL_resting_4 : decode cL_resting 4 = .ok (.invokevirtual 33, 3) := by decide +kernel
theorem dL_resting_7 : decode cL_resting 7 = .ok (.ireturn, 1) := by decide +kernel
theorem dL_resting_8 : decode cL_resting 8 = .ok (.astore 4, 2) := by decide +kernel
theorem dL_resting_10 : decode cL_resting 10 = .ok (.iconst (-1), 1) := by decide +kernel
theorem dL_resting_11 : decode cL_resting 11 = .ok (.ireturn, 1) := by decide +kernel
theorem dL_resting_12 : decode cL_resting 12 = .ok (.astore 4, 2) := by decide +kernel
theorem dL_resting_14 : decode cL_resting 14 = .ok (.bipush (-2), 2) := by decide +kernel
theorem dL_resting_16 : decode cL_resting 16 = .ok (.ireturn, 1) := by decide +kernel
theorem dL_resting_17 : decode cL_resting 17 = .ok (.astore 4, 2) := by decide +kernel
theorem dL_resting_19 : decode cL_resting 19 = .ok (.bipush (-3), 2) := by decide +kernel
theorem dL_resting_21 : decode cL_resting 21 = .ok (.ireturn, 1) := by decide +kernel
theorem dL_dropping_0 : decode cL_dropping 0 = .ok (.aload_n 0, 1) := by decide +kernel
theorem dL_dropping_1 : decode cL_dropping 1 = .ok (.iload_n 1, 1) := by decide +kernel
theorem dL_dropping_2 : decode cL_dropping 2 = .ok (.iload_n 2, 1) := by decide +kernel
theorem dL_dropping_3 : decode cL_dropping 3 = .ok (.iload_n 3, 1) := by decide +kernel
theorem dL_dropping_4 : decode cL_dropping 4 = .ok (.invokevirtual 36, 3) := by decide +kernel
theorem dL_dropping_7 : decode cL_dropping 7 = .ok (.ireturn, 1) := by decide +kernel
theorem dL_dropping_8 : decode cL_dropping 8 = .ok (.astore 4, 2) := by decide +kernel
theorem dL_dropping_10 : decode cL_dropping 10 = .ok (.iconst (-1), 1) := by decide +kernel
theorem dL_dropping_11 : decode cL_dropping 11 = .ok (.ireturn, 1) := by decide +kernel
theorem dL_measuring_0 : decode cL_measuring 0 = .ok (.aload_n 0, 1) := by decide +kernel
theorem dL_measuring_1 : decode cL_measuring 1 = .ok (.iload_n 1, 1) := by decide +kernel
theorem dL_measuring_2 : decode cL_measuring 2 = .ok (.iload_n 2, 1) := by decide +kernel
theorem dL_measuring_3 : decode cL_measuring 3 = .ok (.invokevirtual 39, 3) := by decide +kernel
theorem dL_measuring_6 : decode cL_measuring 6 = .ok (.ireturn, 1) := by decide +kernel
theorem dL_measuring_7 : decode cL_measuring 7 = .ok (.astore_n 3, 1) := by decide +kernel
theorem dL_measuring_8 : decode cL_measuring 8 = .ok (.sipush (-2001), 3) := by decide +kernel
theorem dL_measuring_11 : decode cL_measuring 11 = .ok (.ireturn, 1) := by decide +kernel
theorem dL_measuring_12 : decode cL_measuring 12 = .ok (.astore_n 3, 1) := by decide +kernel
theorem dL_measuring_13 : decode cL_measuring 13 = .ok (.sipush (-2002), 3) := by decide +kernel
theorem dL_measuring_16 : decode cL_measuring 16 = .ok (.ireturn, 1) := by decide +kernel
theorem dL_asking_0 : decode cL_asking 0 = .ok (.aload_n 0, 1) := by decide +kernel
theorem dL_asking_1 : decode cL_asking 1 = .ok (.iload_n 1, 1) := by decide +kernel
theorem dL_asking_2 : decode cL_asking 2 = .ok (.iload_n 2, 1) := by decide +kernel
theorem dL_asking_3 : decode cL_asking 3 = .ok (.iload_n 3, 1) := by decide +kernel
theorem dL_asking_4 : decode cL_asking 4 = .ok (.iload 4, 2) := by decide +kernel
theorem dL_asking_6 : decode cL_asking 6 = .ok (.invokevirtual 43, 3) := by decide +kernel
theorem dL_asking_9 : decode cL_asking 9 = .ok (.ireturn, 1) := by decide +kernel
theorem dL_asking_10 : decode cL_asking 10 = .ok (.astore 5, 2) := by decide +kernel
theorem dL_asking_12 : decode cL_asking 12 = .ok (.sipush (-2001), 3) := by decide +kernel
theorem dL_asking_15 : decode cL_asking 15 = .ok (.ireturn, 1) := by decide +kernel
theorem dL_asking_16 : decode cL_asking 16 = .ok (.astore 5, 2) := by decide +kernel
theorem dL_asking_18 : decode cL_asking 18 = .ok (.sipush (-2002), 3) := by decide +kernel
theorem dL_asking_21 : decode cL_asking 21 = .ok (.ireturn, 1) := by decide +kernel
theorem dL_finding_0 : decode cL_finding 0 = .ok (.aload_n 0, 1) := by decide +kernel
theorem dL_finding_1 : decode cL_finding 1 = .ok (.iload_n 1, 1) := by decide +kernel
theorem dL_finding_2 : decode cL_finding 2 = .ok (.iload_n 2, 1) := by decide +kernel
theorem dL_finding_3 : decode cL_finding 3 = .ok (.iload_n 3, 1) := by decide +kernel
theorem dL_finding_4 : decode cL_finding 4 = .ok (.invokevirtual 47, 3) := by decide +kernel
theorem dL_finding_7 : decode cL_finding 7 = .ok (.ireturn, 1) := by decide +kernel
theorem dL_finding_8 : decode cL_finding 8 = .ok (.astore 4, 2) := by decide +kernel
theorem dL_finding_10 : decode cL_finding 10 = .ok (.iconst (-1), 1) := by decide +kernel
theorem dL_finding_11 : decode cL_finding 11 = .ok (.ireturn, 1) := by decide +kernel
theorem dL_finding_12 : decode cL_finding 12 = .ok (.astore 4, 2) := by decide +kernel
theorem dL_finding_14 : decode cL_finding 14 = .ok (.bipush (-2), 2) := by decide +kernel
theorem dL_finding_16 : decode cL_finding 16 = .ok (.ireturn, 1) := by decide +kernel
theorem dL_crossing_0 : decode cL_crossing 0 = .ok (.aload_n 0, 1) := by decide +kernel
theorem dL_crossing_1 : decode cL_crossing 1 = .ok (.iload_n 1, 1) := by decide +kernel
theorem dL_crossing_2 : decode cL_crossing 2 = .ok (.invokevirtual 50, 3) := by decide +kernel
theorem dL_crossing_5 : decode cL_crossing 5 = .ok (.ireturn, 1) := by decide +kernel
theorem dL_crossing_6 : decode cL_crossing 6 = .ok (.astore_n 2, 1) := by decide +kernel
theorem dL_crossing_7 : decode cL_crossing 7 = .ok (.iconst (-1), 1) := by decide +kernel
theorem dL_crossing_8 : decode cL_crossing 8 = .ok (.ireturn, 1) := by decide +kernel
theorem dL_counting_0 : decode cL_counting 0 = .ok (.aload_n 0, 1) := by decide +kernel
theorem dL_counting_1 : decode cL_counting 1 = .ok (.iload_n 1, 1) := by decide +kernel
theorem dL_counting_2 : decode cL_counting 2 = .ok (.invokevirtual 53, 3) := by decide +kernel
theorem dL_counting_5 : decode cL_counting 5 = .ok (.ireturn, 1) := by decide +kernel
theorem dL_counting_6 : decode cL_counting 6 = .ok (.astore_n 2, 1) := by decide +kernel
theorem dL_counting_7 : decode cL_counting 7 = .ok (.iconst (-1), 1) := by decide +kernel
theorem dL_counting_8 : decode cL_counting 8 = .ok (.ireturn, 1) := by decide +kernel
theorem dL_ordering_0 : decode cL_ordering 0 = .ok (.aload_n 0, 1) := by decide +kernel
theorem dL_ordering_1 : decode cL_ordering 1 = .ok (.iload_n 1, 1) := by decide +kernel
theorem dL_ordering_2 : decode cL_ordering 2 = .ok (.invokevirtual 56, 3) := by decide +kernel
theorem dL_ordering_5 : decode cL_ordering 5 = .ok (.ireturn, 1) := by decide +kernel
theorem dL_ordering_6 : decode cL_ordering 6 = .ok (.astore_n 2, 1) := by decide +kernel
theorem dL_ordering_7 : decode cL_ordering 7 = .ok (.iconst (-1), 1) := by decide +kernel
theorem dL_ordering_8 : decode cL_ordering 8 = .ok (.ireturn, 1) := by decide +kernel
theorem dL_playing_0 : decode cL_playing 0 = .ok (.aload_n 0, 1) := by decide +kernel
theorem dL_playing_1 : decode cL_playing 1 = .ok (.iload_n 1, 1) := by decide +kernel
theorem dL_playing_2 : decode cL_playing 2 = .ok (.invokevirtual 59, 3) := by decide +kernel
theorem dL_playing_5 : decode cL_playing 5 = .ok (.ireturn, 1) := by decide +kernel
theorem dL_playing_6 : decode cL_playing 6 = .ok (.astore_n 2, 1) := by decide +kernel
theorem dL_playing_7 : decode cL_playing 7 = .ok (.iconst (-1), 1) := by decide +kernel
theorem dL_playing_8 : decode cL_playing 8 = .ok (.ireturn, 1) := by decide +kernel
theorem dL_lasting_0 : decode cL_lasting 0 = .ok (.aload_n 0, 1) := by decide +kernel
theorem dL_lasting_1 : decode cL_lasting 1 = .ok (.iload_n 1, 1) := by decide +kernel
theorem dL_lasting_2 : decode cL_lasting 2 = .ok (.invokevirtual 62, 3) := by decide +kernel
theorem dL_lasting_5 : decode cL_lasting 5 = .ok (.pop, 1) := by decide +kernel
theorem dL_lasting_6 : decode cL_lasting 6 = .ok (.iconst 0, 1) := by decide +kernel
theorem dL_lasting_7 : decode cL_lasting 7 = .ok (.ireturn, 1) := by decide +kernel
theorem dL_lasting_8 : decode cL_lasting 8 = .ok (.astore_n 2, 1) := by decide +kernel
theorem dL_lasting_9 : decode cL_lasting 9 = .ok (.iconst (-1), 1) := by decide +kernel
theorem dL_lasting_10 : decode cL_lasting 10 = .ok (.ireturn, 1) := by decide +kernel
theorem dL_placing_0 : decode cL_placing 0 = .ok (.aload_n 0, 1) := by decide +kernel
theorem dL_placing_1 : decode cL_placing 1 = .ok (.iload_n 1, 1) := by decide +kernel
theorem dL_placing_2 : decode cL_placing 2 = .ok (.invokevirtual 66, 3) := by decide +kernel
theorem dL_placing_5 : decode cL_placing 5 = .ok (.ireturn, 1) := by decide +kernel
theorem dL_placing_6 : decode cL_placing 6 = .ok (.astore_n 2, 1) := by decide +kernel
theorem dL_placing_7 : decode cL_placing 7 = .ok (.iconst (-1), 1) := by decide +kernel
theorem dL_placing_8 : decode cL_placing 8 = .ok (.ireturn, 1) := by decide +kernel
theorem dL_sizing_0 : decode cL_sizing 0 = .ok (.aload_n 0, 1) := by decide +kernel
theorem dL_sizing_1 : decode cL_sizing 1 = .ok (.iload_n 1, 1) := by decide +kernel
theorem dL_sizing_2 : decode cL_sizing 2 = .ok (.invokevirtual 69, 3) := by decide +kernel
theorem dL_sizing_5 : decode cL_sizing 5 = .ok (.ireturn, 1) := by decide +kernel
theorem dL_sizing_6 : decode cL_sizing 6 = .ok (.astore_n 2, 1) := by decide +kernel
theorem dL_sizing_7 : decode cL_sizing 7 = .ok (.iconst (-1), 1) := by decide +kernel
theorem dL_sizing_8 : decode cL_sizing 8 = .ok (.ireturn, 1) := by decide +kernel
theorem dL_spelling_0 : decode cL_spelling 0 = .ok (.aload_n 0, 1) := by decide +kernel
theorem dL_spelling_1 : decode cL_spelling 1 = .ok (.iload_n 1, 1) := by decide +kernel
theorem dL_spelling_2 : decode cL_spelling 2 = .ok (.iload_n 2, 1) := by decide +kernel
theorem dL_spelling_3 : decode cL_spelling 3 = .ok (.invokevirtual 72, 3) := by decide +kernel
theorem dL_spelling_6 : decode cL_spelling 6 = .ok (.ireturn, 1) := by decide +kernel
theorem dL_spelling_7 : decode cL_spelling 7 = .ok (.astore_n 3, 1) := by decide +kernel
theorem dL_spelling_8 : decode cL_spelling 8 = .ok (.iconst (-1), 1) := by decide +kernel
theorem dL_spelling_9 : decode cL_spelling 9 = .ok (.ireturn, 1) := by decide +kernel
theorem dL_spelling_10 : decode cL_spelling 10 = .ok (.astore_n 3, 1) := by decide +kernel
theorem dL_spelling_11 : decode cL_spelling 11 = .ok (.bipush (-2), 2) := by decide +kernel
theorem dL_spelling_13 : decode cL_spelling 13 = .ok (.ireturn, 1) := by decide +kernel
theorem dL_wording_0 : decode cL_wording 0 = .ok (.aload_n 0, 1) := by decide +kernel
theorem dL_wording_1 : decode cL_wording 1 = .ok (.iload_n 1, 1) := by decide +kernel
theorem dL_wording_2 : decode cL_wording 2 = .ok (.invokevirtual 75, 3) := by decide +kernel
theorem dL_wording_5 : decode cL_wording 5 = .ok (.ireturn, 1) := by decide +kernel
theorem dL_wording_6 : decode cL_wording 6 = .ok (.astore_n 2, 1) := by decide +kernel
theorem dL_wording_7 : decode cL_wording 7 = .ok (.iconst (-1), 1) := by decide +kernel
theorem dL_wording_8 : decode cL_wording 8 = .ok (.ireturn, 1) := by decide +kernel
theorem dL_copying_0 : decode cL_copying 0 = .ok (.aload_n 0, 1) := by decide +kernel
theorem dL_copying_1 : decode cL_copying 1 = .ok (.iload_n 1, 1) := by decide +kernel
theorem dL_copying_2 : decode cL_copying 2 = .ok (.invokevirtual 78, 3) := by decide +kernel
theorem dL_copying_5 : decode cL_copying 5 = .ok (.ireturn, 1) := by decide +kernel
theorem dL_copying_6 : decode cL_copying 6 = .ok (.astore_n 2, 1) := by decide +kernel
theorem dL_copying_7 : decode cL_copying 7 = .ok (.iconst (-1), 1) := by decide +kernel
theorem dL_copying_8 : decode cL_copying 8 = .ok (.ireturn, 1) := by decide +kernel
theorem dL_copying_9 : decode cL_copying 9 = .ok (.astore_n 2, 1) := by decide +kernel
theorem dL_copying_10 : decode cL_copying 10 = .ok (.bipush (-2), 2) := by decide +kernel
theorem dL_copying_12 : decode cL_copying 12 = .ok (.ireturn, 1) := by decide +kernel
theorem dL_typing_0 : decode cL_typing 0 = .ok (.aload_n 0, 1) := by decide +kernel
theorem dL_typing_1 : decode cL_typing 1 = .ok (.iload_n 1, 1) := by decide +kernel
theorem dL_typing_2 : decode cL_typing 2 = .ok (.invokevirtual 81, 3) := by decide +kernel
theorem dL_typing_5 : decode cL_typing 5 = .ok (.ireturn, 1) := by decide +kernel
theorem dL_typing_6 : decode cL_typing 6 = .ok (.astore_n 2, 1) := by decide +kernel
theorem dL_typing_7 : decode cL_typing 7 = .ok (.iconst (-1), 1) := by decide +kernel
theorem dL_typing_8 : decode cL_typing 8 = .ok (.ireturn, 1) := by decide +kernel
theorem dL_typing_9 : decode cL_typing 9 = .ok (.astore_n 2, 1) := by decide +kernel
theorem dL_typing_10 : decode cL_typing 10 = .ok (.bipush (-2), 2) := by decide +kernel
theorem dL_typing_12 : decode cL_typing 12 = .ok (.ireturn, 1) := by decide +kernel
theorem dL_cutting_0 : decode cL_cutting 0 = .ok (.aload_n 0, 1) := by decide +kernel
theorem dL_cutting_1 : decode cL_cutting 1 = .ok (.iload_n 1, 1) := by decide +kernel
theorem dL_cutting_2 : decode cL_cutting 2 = .ok (.invokevirtual 84, 3) := by decide +kernel
theorem dL_cutting_5 : decode cL_cutting 5 = .ok (.ireturn, 1) := by decide +kernel
theorem dL_cutting_6 : decode cL_cutting 6 = .ok (.astore_n 2, 1) := by decide +kernel
theorem dL_cutting_7 : decode cL_cutting 7 = .ok (.iconst (-1), 1) := by decide +kernel
theorem dL_cutting_8 : decode cL_cutting 8 = .ok (.ireturn, 1) := by decide +kernel
theorem dL_cutting_9 : decode cL_cutting 9 = .ok (.astore_n 2, 1) := by decide +kernel
theorem dL_cutting_10 : decode cL_cutting 10 = .ok (.bipush (-2), 2) := by decide +kernel
theorem dL_cutting_12 : decode cL_cutting 12 = .ok (.ireturn, 1) := by decide +kernel
theorem dL_reading_0 : decode cL_reading 0 = .ok (.aload_n 0, 1) := by decide +kernel
theorem dL_reading_1 : decode cL_reading 1 = .ok (.iload_n 1, 1) := by decide +kernel
theorem dL_reading_2 : decode cL_reading 2 = .ok (.invokevirtual 87, 3) := by decide +kernel
theorem dL_reading_5 : decode cL_reading 5 = .ok (.ireturn, 1) := by decide +kernel
theorem dL_reading_6 : decode cL_reading 6 = .ok (.astore_n 2, 1) := by decide +kernel
theorem dL_reading_7 : decode cL_reading 7 = .ok (.iconst (-1), 1) := by decide +kernel
theorem dL_reading_8 : decode cL_reading 8 = .ok (.ireturn, 1) := by decide +kernel
theorem dL_telling_0 : decode cL_telling 0 = .ok (.aload_n 0, 1) := by decide +kernel
theorem dL_telling_1 : decode cL_telling 1 = .ok (.iload_n 1, 1) := by decide +kernel
theorem dL_telling_2 : decode cL_telling 2 = .ok (.invokevirtual 90, 3) := by decide +kernel
theorem dL_telling_5 : decode cL_telling 5 = .ok (.pop, 1) := by decide +kernel
theorem dL_telling_6 : decode cL_telling 6 = .ok (.iconst 0, 1) := by decide +kernel
theorem dL_telling_7 : decode cL_telling 7 = .ok (.ireturn, 1) := by decide +kernel
theorem dL_telling_8 : decode cL_telling 8 = .ok (.astore_n 2, 1) := by decide +kernel
theorem dL_telling_9 : decode cL_telling 9 = .ok (.iconst (-1), 1) := by decide +kernel
theorem dL_telling_10 : decode cL_telling 10 = .ok (.ireturn, 1) := by decide +kernel
theorem dL_changing_0 : decode cL_changing 0 = .ok (.aload_n 0, 1) := by decide +kernel
theorem dL_changing_1 : decode cL_changing 1 = .ok (.iload_n 1, 1) := by decide +kernel
theorem dL_changing_2 : decode cL_changing 2 = .ok (.iload_n 2, 1) := by decide +kernel
theorem dL_changing_3 : decode cL_changing 3 = .ok (.invokevirtual 94, 3) := by decide +kernel
theorem dL_changing_6 : decode cL_changing 6 = .ok (.ireturn, 1) := by decide +kernel
theorem dL_changing_7 : decode cL_changing 7 = .ok (.astore_n 3, 1) := by decide +kernel
theorem dL_changing_8 : decode cL_changing 8 = .ok (.iconst (-1), 1) := by decide +kernel
theorem dL_changing_9 : decode cL_changing 9 = .ok (.ireturn, 1) := by decide +kernel
theorem dL_changing_10 : decode cL_changing 10 = .ok (.astore_n 3, 1) := by decide +kernel
theorem dL_changing_11 : decode cL_changing 11 = .ok (.bipush (-2), 2) := by decide +kernel
theorem dL_changing_13 : decode cL_changing 13 = .ok (.ireturn, 1) := by decide +kernel
theorem dL_nearing_0 : decode cL_nearing 0 = .ok (.aload_n 0, 1) := by decide +kernel
theorem dL_nearing_1 : decode cL_nearing 1 = .ok (.iload_n 1, 1) := by decide +kernel
theorem dL_nearing_2 : decode cL_nearing 2 = .ok (.invokevirtual 97, 3) := by decide +kernel
theorem dL_nearing_5 : decode cL_nearing 5 = .ok (.ireturn, 1) := by decide +kernel
theorem dL_nearing_6 : decode cL_nearing 6 = .ok (.astore_n 2, 1) := by decide +kernel
theorem dL_nearing_7 : decode cL_nearing 7 = .ok (.bipush (-100), 2) := by decide +kernel
theorem dL_nearing_9 : decode cL_nearing 9 = .ok (.ireturn, 1) := by decide +kernel
theorem dL_sparing_0 : decode cL_sparing 0 = .ok (.aload_n 0, 1) := by decide +kernel
theorem dL_sparing_1 : decode cL_sparing 1 = .ok (.iload_n 1, 1) := by decide +kernel
theorem dL_sparing_2 : decode cL_sparing 2 = .ok (.invokevirtual 100, 3) := by decide +kernel
theorem dL_sparing_5 : decode cL_sparing 5 = .ok (.ireturn, 1) := by decide +kernel
theorem dL_sparing_6 : decode cL_sparing 6 = .ok (.astore_n 2, 1) := by decide +kernel
theorem dL_sparing_7 : decode cL_sparing 7 = .ok (.iconst (-1), 1) := by decide +kernel
theorem dL_sparing_8 : decode cL_sparing 8 = .ok (.ireturn, 1) := by decide +kernel
theorem dL_undoing_0 : decode cL_undoing 0 = .ok (.aload_n 0, 1) := by decide +kernel
theorem dL_undoing_1 : decode cL_undoing 1 = .ok (.invokevirtual 103, 3) := by decide +kernel
theorem dL_undoing_4 : decode cL_undoing 4 = .ok (.ireturn, 1) := by decide +kernel
theorem dL_undoing_5 : decode cL_undoing 5 = .ok (.astore_n 1, 1) := by decide +kernel
theorem dL_undoing_6 : decode cL_undoing 6 = .ok (.iconst (-1), 1) := by decide +kernel
theorem dL_undoing_7 : decode cL_undoing 7 = .ok (.ireturn, 1) := by decide +kernel
theorem dL_refused_0 : decode cL_refused 0 = .ok (.aload_n 0, 1) := by decide +kernel
theorem dL_refused_1 : decode cL_refused 1 = .ok (.invokevirtual 106, 3) := by decide +kernel
theorem dL_refused_4 : decode cL_refused 4 = .ok (.lstore_n 1, 1) := by decide +kernel
theorem dL_refused_5 : decode cL_refused 5 = .ok (.aload_n 0, 1) := by decide +kernel
theorem dL_refused_6 : decode cL_refused 6 = .ok (.iconst 0, 1) := by decide +kernel
theorem dL_refused_7 : decode cL_refused 7 = .ok (.invokevirtual 53, 3) := by decide +kernel
theorem dL_refused_10 : decode cL_refused 10 = .ok (.istore_n 3, 1) := by decide +kernel
theorem dL_refused_11 : decode cL_refused 11 = .ok (.iconst 0, 1) := by decide +kernel
theorem dL_refused_12 : decode cL_refused 12 = .ok (.istore 4, 2) := by decide +kernel
theorem dL_refused_14 : decode cL_refused 14 = .ok (.iload 4, 2) := by decide +kernel
theorem dL_refused_16 : decode cL_refused 16 = .ok (.iconst 2, 1) := by decide +kernel
theorem dL_refused_17 : decode cL_refused 17 = .ok (.if_icmp .ge 245, 3) := by decide +kernel
theorem dL_refused_20 : decode cL_refused 20 = .ok (.iload 4, 2) := by decide +kernel
theorem dL_refused_22 : decode cL_refused 22 = .ok (.ifCond .ne 7, 3) := by decide +kernel
theorem dL_refused_25 : decode cL_refused 25 = .ok (.iload_n 3, 1) := by decide +kernel
theorem dL_refused_26 : decode cL_refused 26 = .ok (.goto 4, 3) := by decide +kernel
theorem dL_refused_29 : decode cL_refused 29 = .ok (.iconst (-1), 1) := by decide +kernel
theorem dL_refused_30 : decode cL_refused 30 = .ok (.istore 5, 2) := by decide +kernel
theorem dL_refused_32 : decode cL_refused 32 = .ok (.aload_n 0, 1) := by decide +kernel
theorem dL_refused_33 : decode cL_refused 33 = .ok (.iload 5, 2) := by decide +kernel
theorem dL_refused_35 : decode cL_refused 35 = .ok (.invokestatic 110, 3) := by decide +kernel
theorem dL_refused_38 : decode cL_refused 38 = .ok (.iconst (-1), 1) := by decide +kernel
theorem dL_refused_39 : decode cL_refused 39 = .ok (.if_icmp .ne 215, 3) := by decide +kernel
theorem dL_refused_42 : decode cL_refused 42 = .ok (.aload_n 0, 1) := by decide +kernel
theorem dL_refused_43 : decode cL_refused 43 = .ok (.iload 5, 2) := by decide +kernel
theorem dL_refused_45 : decode cL_refused 45 = .ok (.bipush 9, 2) := by decide +kernel
theorem dL_refused_47 : decode cL_refused 47 = .ok (.bipush 99, 2) := by decide +kernel
theorem dL_refused_49 : decode cL_refused 49 = .ok (.invokestatic 116, 3) := by decide +kernel
theorem dL_refused_52 : decode cL_refused 52 = .ok (.sipush (-2001), 3) := by decide +kernel
theorem dL_refused_55 : decode cL_refused 55 = .ok (.if_icmp .ne 199, 3) := by decide +kernel
theorem dL_refused_58 : decode cL_refused 58 = .ok (.aload_n 0, 1) := by decide +kernel
theorem dL_refused_59 : decode cL_refused 59 = .ok (.iload 5, 2) := by decide +kernel
theorem dL_refused_61 : decode cL_refused 61 = .ok (.iconst 0, 1) := by decide +kernel
theorem dL_refused_62 : decode cL_refused 62 = .ok (.bipush 63, 2) := by decide +kernel
theorem dL_refused_64 : decode cL_refused 64 = .ok (.iconst 0, 1) := by decide +kernel
theorem dL_refused_65 : decode cL_refused 65 = .ok (.iconst 0, 1) := by decide +kernel
theorem dL_refused_66 : decode cL_refused 66 = .ok (.invokestatic 120, 3) := by decide +kernel
theorem dL_refused_69 : decode cL_refused 69 = .ok (.iconst (-1), 1) := by decide +kernel
theorem dL_refused_70 : decode cL_refused 70 = .ok (.if_icmp .ne 184, 3) := by decide +kernel
theorem dL_refused_73 : decode cL_refused 73 = .ok (.aload_n 0, 1) := by decide +kernel
theorem dL_refused_74 : decode cL_refused 74 = .ok (.iload 5, 2) := by decide +kernel
theorem dL_refused_76 : decode cL_refused 76 = .ok (.iconst 2, 1) := by decide +kernel
theorem dL_refused_77 : decode cL_refused 77 = .ok (.bipush 10, 2) := by decide +kernel
theorem dL_refused_79 : decode cL_refused 79 = .ok (.invokestatic 124, 3) := by decide +kernel
theorem dL_refused_82 : decode cL_refused 82 = .ok (.iconst (-1), 1) := by decide +kernel
theorem dL_refused_83 : decode cL_refused 83 = .ok (.if_icmp .ne 171, 3) := by decide +kernel
theorem dL_refused_86 : decode cL_refused 86 = .ok (.aload_n 0, 1) := by decide +kernel
theorem dL_refused_87 : decode cL_refused 87 = .ok (.iload 5, 2) := by decide +kernel
theorem dL_refused_89 : decode cL_refused 89 = .ok (.iconst 0, 1) := by decide +kernel
theorem dL_refused_90 : decode cL_refused 90 = .ok (.iconst 0, 1) := by decide +kernel
theorem dL_refused_91 : decode cL_refused 91 = .ok (.invokestatic 127, 3) := by decide +kernel
theorem dL_refused_94 : decode cL_refused 94 = .ok (.iconst (-1), 1) := by decide +kernel
theorem dL_refused_95 : decode cL_refused 95 = .ok (.if_icmp .ne 159, 3) := by decide +kernel
theorem dL_refused_98 : decode cL_refused 98 = .ok (.aload_n 0, 1) := by decide +kernel
theorem dL_refused_99 : decode cL_refused 99 = .ok (.iload 5, 2) := by decide +kernel
theorem dL_refused_101 : decode cL_refused 101 = .ok (.bipush 12, 2) := by decide +kernel
theorem dL_refused_103 : decode cL_refused 103 = .ok (.invokestatic 130, 3) := by decide +kernel
theorem dL_refused_106 : decode cL_refused 106 = .ok (.sipush (-2001), 3) := by decide +kernel
theorem dL_refused_109 : decode cL_refused 109 = .ok (.if_icmp .ne 145, 3) := by decide +kernel
theorem dL_refused_112 : decode cL_refused 112 = .ok (.aload_n 0, 1) := by decide +kernel
theorem dL_refused_113 : decode cL_refused 113 = .ok (.iload 5, 2) := by decide +kernel
theorem dL_refused_115 : decode cL_refused 115 = .ok (.iconst 0, 1) := by decide +kernel
theorem dL_refused_116 : decode cL_refused 116 = .ok (.iconst 0, 1) := by decide +kernel
theorem dL_refused_117 : decode cL_refused 117 = .ok (.bipush 10, 2) := by decide +kernel
theorem dL_refused_119 : decode cL_refused 119 = .ok (.invokestatic 134, 3) := by decide +kernel
theorem dL_refused_122 : decode cL_refused 122 = .ok (.sipush (-2001), 3) := by decide +kernel
theorem dL_refused_125 : decode cL_refused 125 = .ok (.if_icmp .ne 129, 3) := by decide +kernel
theorem dL_refused_128 : decode cL_refused 128 = .ok (.aload_n 0, 1) := by decide +kernel
theorem dL_refused_129 : decode cL_refused 129 = .ok (.iload 5, 2) := by decide +kernel
theorem dL_refused_131 : decode cL_refused 131 = .ok (.iconst 0, 1) := by decide +kernel
theorem dL_refused_132 : decode cL_refused 132 = .ok (.iconst (-1), 1) := by decide +kernel
theorem dL_refused_133 : decode cL_refused 133 = .ok (.invokestatic 138, 3) := by decide +kernel
theorem dL_refused_136 : decode cL_refused 136 = .ok (.iconst (-1), 1) := by decide +kernel
theorem dL_refused_137 : decode cL_refused 137 = .ok (.if_icmp .ne 117, 3) := by decide +kernel
theorem dL_refused_140 : decode cL_refused 140 = .ok (.aload_n 0, 1) := by decide +kernel
theorem dL_refused_141 : decode cL_refused 141 = .ok (.iload 5, 2) := by decide +kernel
theorem dL_refused_143 : decode cL_refused 143 = .ok (.invokestatic 141, 3) := by decide +kernel
theorem dL_refused_146 : decode cL_refused 146 = .ok (.iconst (-1), 1) := by decide +kernel
theorem dL_refused_147 : decode cL_refused 147 = .ok (.if_icmp .ne 107, 3) := by decide +kernel
theorem dL_refused_150 : decode cL_refused 150 = .ok (.aload_n 0, 1) := by decide +kernel
theorem dL_refused_151 : decode cL_refused 151 = .ok (.iload 5, 2) := by decide +kernel
theorem dL_refused_153 : decode cL_refused 153 = .ok (.invokestatic 144, 3) := by decide +kernel
theorem dL_refused_156 : decode cL_refused 156 = .ok (.iconst (-1), 1) := by decide +kernel
theorem dL_refused_157 : decode cL_refused 157 = .ok (.if_icmp .ne 97, 3) := by decide +kernel
theorem dL_refused_160 : decode cL_refused 160 = .ok (.aload_n 0, 1) := by decide +kernel
theorem dL_refused_161 : decode cL_refused 161 = .ok (.iload 5, 2) := by decide +kernel
theorem dL_refused_163 : decode cL_refused 163 = .ok (.invokestatic 147, 3) := by decide +kernel
theorem dL_refused_166 : decode cL_refused 166 = .ok (.iconst (-1), 1) := by decide +kernel
theorem dL_refused_167 : decode cL_refused 167 = .ok (.if_icmp .ne 87, 3) := by decide +kernel
theorem dL_refused_170 : decode cL_refused 170 = .ok (.aload_n 0, 1) := by decide +kernel
theorem dL_refused_171 : decode cL_refused 171 = .ok (.iload 5, 2) := by decide +kernel
theorem dL_refused_173 : decode cL_refused 173 = .ok (.iconst (-1), 1) := by decide +kernel
theorem dL_refused_174 : decode cL_refused 174 = .ok (.invokestatic 150, 3) := by decide +kernel
theorem dL_refused_177 : decode cL_refused 177 = .ok (.iconst (-1), 1) := by decide +kernel
theorem dL_refused_178 : decode cL_refused 178 = .ok (.if_icmp .ne 76, 3) := by decide +kernel
theorem dL_refused_181 : decode cL_refused 181 = .ok (.aload_n 0, 1) := by decide +kernel
theorem dL_refused_182 : decode cL_refused 182 = .ok (.iload 5, 2) := by decide +kernel
theorem dL_refused_184 : decode cL_refused 184 = .ok (.invokestatic 153, 3) := by decide +kernel
theorem dL_refused_187 : decode cL_refused 187 = .ok (.iconst (-1), 1) := by decide +kernel
theorem dL_refused_188 : decode cL_refused 188 = .ok (.if_icmp .ne 66, 3) := by decide +kernel
theorem dL_refused_191 : decode cL_refused 191 = .ok (.aload_n 0, 1) := by decide +kernel
theorem dL_refused_192 : decode cL_refused 192 = .ok (.iload 5, 2) := by decide +kernel
theorem dL_refused_194 : decode cL_refused 194 = .ok (.invokestatic 156, 3) := by decide +kernel
theorem dL_refused_197 : decode cL_refused 197 = .ok (.iconst (-1), 1) := by decide +kernel
theorem dL_refused_198 : decode cL_refused 198 = .ok (.if_icmp .ne 56, 3) := by decide +kernel
theorem dL_refused_201 : decode cL_refused 201 = .ok (.aload_n 0, 1) := by decide +kernel
theorem dL_refused_202 : decode cL_refused 202 = .ok (.iload 5, 2) := by decide +kernel
theorem dL_refused_204 : decode cL_refused 204 = .ok (.invokestatic 159, 3) := by decide +kernel
theorem dL_refused_207 : decode cL_refused 207 = .ok (.iconst (-1), 1) := by decide +kernel
theorem dL_refused_208 : decode cL_refused 208 = .ok (.if_icmp .ne 46, 3) := by decide +kernel
theorem dL_refused_211 : decode cL_refused 211 = .ok (.aload_n 0, 1) := by decide +kernel
theorem dL_refused_212 : decode cL_refused 212 = .ok (.iload 5, 2) := by decide +kernel
theorem dL_refused_214 : decode cL_refused 214 = .ok (.invokestatic 162, 3) := by decide +kernel
theorem dL_refused_217 : decode cL_refused 217 = .ok (.iconst (-1), 1) := by decide +kernel
theorem dL_refused_218 : decode cL_refused 218 = .ok (.if_icmp .ne 36, 3) := by decide +kernel
theorem dL_refused_221 : decode cL_refused 221 = .ok (.aload_n 0, 1) := by decide +kernel
theorem dL_refused_222 : decode cL_refused 222 = .ok (.iload 5, 2) := by decide +kernel
theorem dL_refused_224 : decode cL_refused 224 = .ok (.bipush 8, 2) := by decide +kernel
theorem dL_refused_226 : decode cL_refused 226 = .ok (.invokestatic 165, 3) := by decide +kernel
theorem dL_refused_229 : decode cL_refused 229 = .ok (.iconst (-1), 1) := by decide +kernel
theorem dL_refused_230 : decode cL_refused 230 = .ok (.if_icmp .ne 24, 3) := by decide +kernel
theorem dL_refused_233 : decode cL_refused 233 = .ok (.aload_n 0, 1) := by decide +kernel
theorem dL_refused_234 : decode cL_refused 234 = .ok (.iload 5, 2) := by decide +kernel
theorem dL_refused_236 : decode cL_refused 236 = .ok (.invokestatic 168, 3) := by decide +kernel
theorem dL_refused_239 : decode cL_refused 239 = .ok (.bipush (-100), 2) := by decide +kernel
theorem dL_refused_241 : decode cL_refused 241 = .ok (.if_icmp .ne 13, 3) := by decide +kernel
theorem dL_refused_244 : decode cL_refused 244 = .ok (.aload_n 0, 1) := by decide +kernel
theorem dL_refused_245 : decode cL_refused 245 = .ok (.iload 5, 2) := by decide +kernel
theorem dL_refused_247 : decode cL_refused 247 = .ok (.invokestatic 171, 3) := by decide +kernel
theorem dL_refused_250 : decode cL_refused 250 = .ok (.iconst (-1), 1) := by decide +kernel
theorem dL_refused_251 : decode cL_refused 251 = .ok (.if_icmp .eq 5, 3) := by decide +kernel
theorem dL_refused_254 : decode cL_refused 254 = .ok (.iconst 0, 1) := by decide +kernel
theorem dL_refused_255 : decode cL_refused 255 = .ok (.ireturn, 1) := by decide +kernel
theorem dL_refused_256 : decode cL_refused 256 = .ok (.iinc 4 1, 3) := by decide +kernel
theorem dL_refused_259 : decode cL_refused 259 = .ok (.goto (-245), 3) := by decide +kernel
theorem dL_refused_262 : decode cL_refused 262 = .ok (.aload_n 0, 1) := by decide +kernel
theorem dL_refused_263 : decode cL_refused 263 = .ok (.iconst (-1), 1) := by decide +kernel
theorem dL_refused_264 : decode cL_refused 264 = .ok (.invokestatic 174, 3) := by decide +kernel
theorem dL_refused_267 : decode cL_refused 267 = .ok (.iconst (-1), 1) := by decide +kernel
theorem dL_refused_268 : decode cL_refused 268 = .ok (.if_icmp .ne 109, 3) := by decide +kernel
theorem dL_refused_271 : decode cL_refused 271 = .ok (.aload_n 0, 1) := by decide +kernel
theorem dL_refused_272 : decode cL_refused 272 = .ok (.bipush 9, 2) := by decide +kernel
theorem dL_refused_274 : decode cL_refused 274 = .ok (.invokestatic 174, 3) := by decide +kernel
theorem dL_refused_277 : decode cL_refused 277 = .ok (.iconst (-1), 1) := by decide +kernel
theorem dL_refused_278 : decode cL_refused 278 = .ok (.if_icmp .ne 99, 3) := by decide +kernel
theorem dL_refused_281 : decode cL_refused 281 = .ok (.aload_n 0, 1) := by decide +kernel
theorem dL_refused_282 : decode cL_refused 282 = .ok (.iconst (-1), 1) := by decide +kernel
theorem dL_refused_283 : decode cL_refused 283 = .ok (.invokestatic 177, 3) := by decide +kernel
theorem dL_refused_286 : decode cL_refused 286 = .ok (.iconst (-1), 1) := by decide +kernel
theorem dL_refused_287 : decode cL_refused 287 = .ok (.if_icmp .ne 90, 3) := by decide +kernel
theorem dL_refused_290 : decode cL_refused 290 = .ok (.aload_n 0, 1) := by decide +kernel
theorem dL_refused_291 : decode cL_refused 291 = .ok (.iconst (-1), 1) := by decide +kernel
theorem dL_refused_292 : decode cL_refused 292 = .ok (.invokestatic 180, 3) := by decide +kernel
theorem dL_refused_295 : decode cL_refused 295 = .ok (.iconst (-1), 1) := by decide +kernel
theorem dL_refused_296 : decode cL_refused 296 = .ok (.if_icmp .ne 81, 3) := by decide +kernel
theorem dL_refused_299 : decode cL_refused 299 = .ok (.aload_n 0, 1) := by decide +kernel
theorem dL_refused_300 : decode cL_refused 300 = .ok (.iconst (-1), 1) := by decide +kernel
theorem dL_refused_301 : decode cL_refused 301 = .ok (.invokestatic 183, 3) := by decide +kernel
theorem dL_refused_304 : decode cL_refused 304 = .ok (.iconst (-1), 1) := by decide +kernel
theorem dL_refused_305 : decode cL_refused 305 = .ok (.if_icmp .ne 72, 3) := by decide +kernel
theorem dL_refused_308 : decode cL_refused 308 = .ok (.aload_n 0, 1) := by decide +kernel
theorem dL_refused_309 : decode cL_refused 309 = .ok (.iconst (-1), 1) := by decide +kernel
theorem dL_refused_310 : decode cL_refused 310 = .ok (.invokestatic 186, 3) := by decide +kernel
theorem dL_refused_313 : decode cL_refused 313 = .ok (.iconst (-1), 1) := by decide +kernel
theorem dL_refused_314 : decode cL_refused 314 = .ok (.if_icmp .ne 63, 3) := by decide +kernel
theorem dL_refused_317 : decode cL_refused 317 = .ok (.aload_n 0, 1) := by decide +kernel
theorem dL_refused_318 : decode cL_refused 318 = .ok (.sipush 128, 3) := by decide +kernel
theorem dL_refused_321 : decode cL_refused 321 = .ok (.invokestatic 186, 3) := by decide +kernel
theorem dL_refused_324 : decode cL_refused 324 = .ok (.iconst (-1), 1) := by decide +kernel
theorem dL_refused_325 : decode cL_refused 325 = .ok (.if_icmp .ne 52, 3) := by decide +kernel
theorem dL_refused_328 : decode cL_refused 328 = .ok (.aload_n 0, 1) := by decide +kernel
theorem dL_refused_329 : decode cL_refused 329 = .ok (.iconst 0, 1) := by decide +kernel
theorem dL_refused_330 : decode cL_refused 330 = .ok (.invokestatic 189, 3) := by decide +kernel
theorem dL_refused_333 : decode cL_refused 333 = .ok (.iconst (-1), 1) := by decide +kernel
theorem dL_refused_334 : decode cL_refused 334 = .ok (.if_icmp .ne 43, 3) := by decide +kernel
theorem dL_refused_337 : decode cL_refused 337 = .ok (.aload_n 0, 1) := by decide +kernel
theorem dL_refused_338 : decode cL_refused 338 = .ok (.sipush 601, 3) := by decide +kernel
theorem dL_refused_341 : decode cL_refused 341 = .ok (.invokestatic 189, 3) := by decide +kernel
theorem dL_refused_344 : decode cL_refused 344 = .ok (.iconst (-1), 1) := by decide +kernel
theorem dL_refused_345 : decode cL_refused 345 = .ok (.if_icmp .ne 32, 3) := by decide +kernel
theorem dL_refused_348 : decode cL_refused 348 = .ok (.aload_n 0, 1) := by decide +kernel
theorem dL_refused_349 : decode cL_refused 349 = .ok (.bipush 8, 2) := by decide +kernel
theorem dL_refused_351 : decode cL_refused 351 = .ok (.invokevirtual 53, 3) := by decide +kernel
theorem dL_refused_354 : decode cL_refused 354 = .ok (.sipush 600, 3) := by decide +kernel
theorem dL_refused_357 : decode cL_refused 357 = .ok (.if_icmp .ge 22, 3) := by decide +kernel
theorem dL_refused_360 : decode cL_refused 360 = .ok (.aload_n 0, 1) := by decide +kernel
theorem dL_refused_361 : decode cL_refused 361 = .ok (.aload_n 0, 1) := by decide +kernel
theorem dL_refused_362 : decode cL_refused 362 = .ok (.bipush 8, 2) := by decide +kernel
theorem dL_refused_364 : decode cL_refused 364 = .ok (.invokevirtual 53, 3) := by decide +kernel
theorem dL_refused_367 : decode cL_refused 367 = .ok (.iconst 1, 1) := by decide +kernel
theorem dL_refused_368 : decode cL_refused 368 = .ok (.iadd, 1) := by decide +kernel
theorem dL_refused_369 : decode cL_refused 369 = .ok (.invokestatic 189, 3) := by decide +kernel
theorem dL_refused_372 : decode cL_refused 372 = .ok (.bipush (-2), 2) := by decide +kernel
theorem dL_refused_374 : decode cL_refused 374 = .ok (.if_icmp .eq 5, 3) := by decide +kernel
theorem dL_refused_377 : decode cL_refused 377 = .ok (.iconst 0, 1) := by decide +kernel
theorem dL_refused_378 : decode cL_refused 378 = .ok (.ireturn, 1) := by decide +kernel
theorem dL_refused_379 : decode cL_refused 379 = .ok (.iload_n 3, 1) := by decide +kernel
theorem dL_refused_380 : decode cL_refused 380 = .ok (.ifCond .le 224, 3) := by decide +kernel
theorem dL_refused_383 : decode cL_refused 383 = .ok (.aload_n 0, 1) := by decide +kernel
theorem dL_refused_384 : decode cL_refused 384 = .ok (.iconst 0, 1) := by decide +kernel
theorem dL_refused_385 : decode cL_refused 385 = .ok (.iconst (-1), 1) := by decide +kernel
theorem dL_refused_386 : decode cL_refused 386 = .ok (.iconst 0, 1) := by decide +kernel
theorem dL_refused_387 : decode cL_refused 387 = .ok (.invokestatic 116, 3) := by decide +kernel
theorem dL_refused_390 : decode cL_refused 390 = .ok (.sipush (-2002), 3) := by decide +kernel
theorem dL_refused_393 : decode cL_refused 393 = .ok (.if_icmp .ne 209, 3) := by decide +kernel
theorem dL_refused_396 : decode cL_refused 396 = .ok (.aload_n 0, 1) := by decide +kernel
theorem dL_refused_397 : decode cL_refused 397 = .ok (.iconst 0, 1) := by decide +kernel
theorem dL_refused_398 : decode cL_refused 398 = .ok (.bipush 7, 2) := by decide +kernel
theorem dL_refused_400 : decode cL_refused 400 = .ok (.iconst 0, 1) := by decide +kernel
theorem dL_refused_401 : decode cL_refused 401 = .ok (.invokestatic 116, 3) := by decide +kernel
theorem dL_refused_404 : decode cL_refused 404 = .ok (.sipush (-2002), 3) := by decide +kernel
theorem dL_refused_407 : decode cL_refused 407 = .ok (.if_icmp .ne 195, 3) := by decide +kernel
theorem dL_refused_410 : decode cL_refused 410 = .ok (.aload_n 0, 1) := by decide +kernel
theorem dL_refused_411 : decode cL_refused 411 = .ok (.iconst 0, 1) := by decide +kernel
theorem dL_refused_412 : decode cL_refused 412 = .ok (.iconst 0, 1) := by decide +kernel
theorem dL_refused_413 : decode cL_refused 413 = .ok (.bipush 8, 2) := by decide +kernel
theorem dL_refused_415 : decode cL_refused 415 = .ok (.invokestatic 116, 3) := by decide +kernel
theorem dL_refused_418 : decode cL_refused 418 = .ok (.sipush (-2002), 3) := by decide +kernel
theorem dL_refused_421 : decode cL_refused 421 = .ok (.if_icmp .ne 181, 3) := by decide +kernel
theorem dL_refused_424 : decode cL_refused 424 = .ok (.aload_n 0, 1) := by decide +kernel
theorem dL_refused_425 : decode cL_refused 425 = .ok (.iconst 0, 1) := by decide +kernel
theorem dL_refused_426 : decode cL_refused 426 = .ok (.iconst 0, 1) := by decide +kernel
theorem dL_refused_427 : decode cL_refused 427 = .ok (.bipush (-8), 2) := by decide +kernel
theorem dL_refused_429 : decode cL_refused 429 = .ok (.invokestatic 116, 3) := by decide +kernel
theorem dL_refused_432 : decode cL_refused 432 = .ok (.sipush (-2002), 3) := by decide +kernel
theorem dL_refused_435 : decode cL_refused 435 = .ok (.if_icmp .ne 167, 3) := by decide +kernel
theorem dL_refused_438 : decode cL_refused 438 = .ok (.aload_n 0, 1) := by decide +kernel
theorem dL_refused_439 : decode cL_refused 439 = .ok (.iconst 0, 1) := by decide +kernel
theorem dL_refused_440 : decode cL_refused 440 = .ok (.iconst 1, 1) := by decide +kernel
theorem dL_refused_441 : decode cL_refused 441 = .ok (.iconst 0, 1) := by decide +kernel
theorem dL_refused_442 : decode cL_refused 442 = .ok (.invokestatic 116, 3) := by decide +kernel
theorem dL_refused_445 : decode cL_refused 445 = .ok (.sipush (-2002), 3) := by decide +kernel
theorem dL_refused_448 : decode cL_refused 448 = .ok (.if_icmp .ne 154, 3) := by decide +kernel
theorem dL_refused_451 : decode cL_refused 451 = .ok (.aload_n 0, 1) := by decide +kernel
theorem dL_refused_452 : decode cL_refused 452 = .ok (.iconst 0, 1) := by decide +kernel
theorem dL_refused_453 : decode cL_refused 453 = .ok (.iconst 1, 1) := by decide +kernel
theorem dL_refused_454 : decode cL_refused 454 = .ok (.bipush 13, 2) := by decide +kernel
theorem dL_refused_456 : decode cL_refused 456 = .ok (.invokestatic 116, 3) := by decide +kernel
theorem dL_refused_459 : decode cL_refused 459 = .ok (.sipush (-2002), 3) := by decide +kernel
theorem dL_refused_462 : decode cL_refused 462 = .ok (.if_icmp .ne 140, 3) := by decide +kernel
theorem dL_refused_465 : decode cL_refused 465 = .ok (.aload_n 0, 1) := by decide +kernel
theorem dL_refused_466 : decode cL_refused 466 = .ok (.iconst 0, 1) := by decide +kernel
theorem dL_refused_467 : decode cL_refused 467 = .ok (.iconst 2, 1) := by decide +kernel
theorem dL_refused_468 : decode cL_refused 468 = .ok (.iconst 1, 1) := by decide +kernel
theorem dL_refused_469 : decode cL_refused 469 = .ok (.invokestatic 116, 3) := by decide +kernel
theorem dL_refused_472 : decode cL_refused 472 = .ok (.sipush (-2002), 3) := by decide +kernel
theorem dL_refused_475 : decode cL_refused 475 = .ok (.if_icmp .ne 127, 3) := by decide +kernel
theorem dL_refused_478 : decode cL_refused 478 = .ok (.aload_n 0, 1) := by decide +kernel
theorem dL_refused_479 : decode cL_refused 479 = .ok (.iconst 0, 1) := by decide +kernel
theorem dL_refused_480 : decode cL_refused 480 = .ok (.iconst 2, 1) := by decide +kernel
theorem dL_refused_481 : decode cL_refused 481 = .ok (.bipush 6, 2) := by decide +kernel
theorem dL_refused_483 : decode cL_refused 483 = .ok (.invokestatic 116, 3) := by decide +kernel
theorem dL_refused_486 : decode cL_refused 486 = .ok (.sipush (-2002), 3) := by decide +kernel
theorem dL_refused_489 : decode cL_refused 489 = .ok (.if_icmp .ne 113, 3) := by decide +kernel
theorem dL_refused_492 : decode cL_refused 492 = .ok (.aload_n 0, 1) := by decide +kernel
theorem dL_refused_493 : decode cL_refused 493 = .ok (.iconst 0, 1) := by decide +kernel
theorem dL_refused_494 : decode cL_refused 494 = .ok (.iconst 2, 1) := by decide +kernel
theorem dL_refused_495 : decode cL_refused 495 = .ok (.bipush 32, 2) := by decide +kernel
theorem dL_refused_497 : decode cL_refused 497 = .ok (.invokestatic 116, 3) := by decide +kernel
theorem dL_refused_500 : decode cL_refused 500 = .ok (.sipush (-2002), 3) := by decide +kernel
theorem dL_refused_503 : decode cL_refused 503 = .ok (.if_icmp .ne 99, 3) := by decide +kernel
theorem dL_refused_506 : decode cL_refused 506 = .ok (.aload_n 0, 1) := by decide +kernel
theorem dL_refused_507 : decode cL_refused 507 = .ok (.iconst 0, 1) := by decide +kernel
theorem dL_refused_508 : decode cL_refused 508 = .ok (.iconst 3, 1) := by decide +kernel
theorem dL_refused_509 : decode cL_refused 509 = .ok (.bipush 19, 2) := by decide +kernel
theorem dL_refused_511 : decode cL_refused 511 = .ok (.invokestatic 116, 3) := by decide +kernel
theorem dL_refused_514 : decode cL_refused 514 = .ok (.sipush (-2002), 3) := by decide +kernel
theorem dL_refused_517 : decode cL_refused 517 = .ok (.if_icmp .ne 85, 3) := by decide +kernel
theorem dL_refused_520 : decode cL_refused 520 = .ok (.aload_n 0, 1) := by decide +kernel
theorem dL_refused_521 : decode cL_refused 521 = .ok (.iconst 0, 1) := by decide +kernel
theorem dL_refused_522 : decode cL_refused 522 = .ok (.iconst 3, 1) := by decide +kernel
theorem dL_refused_523 : decode cL_refused 523 = .ok (.sipush 301, 3) := by decide +kernel
theorem dL_refused_526 : decode cL_refused 526 = .ok (.invokestatic 116, 3) := by decide +kernel
theorem dL_refused_529 : decode cL_refused 529 = .ok (.sipush (-2002), 3) := by decide +kernel
theorem dL_refused_532 : decode cL_refused 532 = .ok (.if_icmp .ne 70, 3) := by decide +kernel
theorem dL_refused_535 : decode cL_refused 535 = .ok (.aload_n 0, 1) := by decide +kernel
theorem dL_refused_536 : decode cL_refused 536 = .ok (.iconst 0, 1) := by decide +kernel
theorem dL_refused_537 : decode cL_refused 537 = .ok (.iconst 4, 1) := by decide +kernel
theorem dL_refused_538 : decode cL_refused 538 = .ok (.iconst 2, 1) := by decide +kernel
theorem dL_refused_539 : decode cL_refused 539 = .ok (.invokestatic 116, 3) := by decide +kernel
theorem dL_refused_542 : decode cL_refused 542 = .ok (.sipush (-2002), 3) := by decide +kernel
theorem dL_refused_545 : decode cL_refused 545 = .ok (.if_icmp .ne 57, 3) := by decide +kernel
theorem dL_refused_548 : decode cL_refused 548 = .ok (.aload_n 0, 1) := by decide +kernel
theorem dL_refused_549 : decode cL_refused 549 = .ok (.iconst 0, 1) := by decide +kernel
theorem dL_refused_550 : decode cL_refused 550 = .ok (.iconst 5, 1) := by decide +kernel
theorem dL_refused_551 : decode cL_refused 551 = .ok (.iconst 1, 1) := by decide +kernel
theorem dL_refused_552 : decode cL_refused 552 = .ok (.invokestatic 116, 3) := by decide +kernel
theorem dL_refused_555 : decode cL_refused 555 = .ok (.sipush (-2002), 3) := by decide +kernel
theorem dL_refused_558 : decode cL_refused 558 = .ok (.if_icmp .ne 44, 3) := by decide +kernel
theorem dL_refused_561 : decode cL_refused 561 = .ok (.aload_n 0, 1) := by decide +kernel
theorem dL_refused_562 : decode cL_refused 562 = .ok (.iconst 0, 1) := by decide +kernel
theorem dL_refused_563 : decode cL_refused 563 = .ok (.iconst 5, 1) := by decide +kernel
theorem dL_refused_564 : decode cL_refused 564 = .ok (.iconst 5, 1) := by decide +kernel
theorem dL_refused_565 : decode cL_refused 565 = .ok (.invokestatic 116, 3) := by decide +kernel
theorem dL_refused_568 : decode cL_refused 568 = .ok (.sipush (-2002), 3) := by decide +kernel
theorem dL_refused_571 : decode cL_refused 571 = .ok (.if_icmp .ne 31, 3) := by decide +kernel
theorem dL_refused_574 : decode cL_refused 574 = .ok (.aload_n 0, 1) := by decide +kernel
theorem dL_refused_575 : decode cL_refused 575 = .ok (.iconst 0, 1) := by decide +kernel
theorem dL_refused_576 : decode cL_refused 576 = .ok (.bipush 6, 2) := by decide +kernel
theorem dL_refused_578 : decode cL_refused 578 = .ok (.iconst 5, 1) := by decide +kernel
theorem dL_refused_579 : decode cL_refused 579 = .ok (.invokestatic 116, 3) := by decide +kernel
theorem dL_refused_582 : decode cL_refused 582 = .ok (.sipush (-2002), 3) := by decide +kernel
theorem dL_refused_585 : decode cL_refused 585 = .ok (.if_icmp .ne 17, 3) := by decide +kernel
theorem dL_refused_588 : decode cL_refused 588 = .ok (.aload_n 0, 1) := by decide +kernel
theorem dL_refused_589 : decode cL_refused 589 = .ok (.iconst 0, 1) := by decide +kernel
theorem dL_refused_590 : decode cL_refused 590 = .ok (.bipush 6, 2) := by decide +kernel
theorem dL_refused_592 : decode cL_refused 592 = .ok (.iconst (-1), 1) := by decide +kernel
theorem dL_refused_593 : decode cL_refused 593 = .ok (.invokestatic 116, 3) := by decide +kernel
theorem dL_refused_596 : decode cL_refused 596 = .ok (.sipush (-2002), 3) := by decide +kernel
theorem dL_refused_599 : decode cL_refused 599 = .ok (.if_icmp .eq 5, 3) := by decide +kernel
theorem dL_refused_602 : decode cL_refused 602 = .ok (.iconst 0, 1) := by decide +kernel
theorem dL_refused_603 : decode cL_refused 603 = .ok (.ireturn, 1) := by decide +kernel
theorem dL_refused_604 : decode cL_refused 604 = .ok (.iload_n 3, 1) := by decide +kernel
theorem dL_refused_605 : decode cL_refused 605 = .ok (.ifCond .le 165, 3) := by decide +kernel
theorem dL_refused_608 : decode cL_refused 608 = .ok (.aload_n 0, 1) := by decide +kernel
theorem dL_refused_609 : decode cL_refused 609 = .ok (.iconst 0, 1) := by decide +kernel
theorem dL_refused_610 : decode cL_refused 610 = .ok (.iconst 2, 1) := by decide +kernel
theorem dL_refused_611 : decode cL_refused 611 = .ok (.bipush 63, 2) := by decide +kernel
theorem dL_refused_613 : decode cL_refused 613 = .ok (.iconst 0, 1) := by decide +kernel
theorem dL_refused_614 : decode cL_refused 614 = .ok (.iconst 0, 1) := by decide +kernel
theorem dL_refused_615 : decode cL_refused 615 = .ok (.invokestatic 120, 3) := by decide +kernel
theorem dL_refused_618 : decode cL_refused 618 = .ok (.iconst (-1), 1) := by decide +kernel
theorem dL_refused_619 : decode cL_refused 619 = .ok (.if_icmp .ne 149, 3) := by decide +kernel
theorem dL_refused_622 : decode cL_refused 622 = .ok (.aload_n 0, 1) := by decide +kernel
theorem dL_refused_623 : decode cL_refused 623 = .ok (.iconst 0, 1) := by decide +kernel
theorem dL_refused_624 : decode cL_refused 624 = .ok (.iconst (-1), 1) := by decide +kernel
theorem dL_refused_625 : decode cL_refused 625 = .ok (.iconst 0, 1) := by decide +kernel
theorem dL_refused_626 : decode cL_refused 626 = .ok (.iconst 0, 1) := by decide +kernel
theorem dL_refused_627 : decode cL_refused 627 = .ok (.iconst 0, 1) := by decide +kernel
theorem dL_refused_628 : decode cL_refused 628 = .ok (.invokestatic 120, 3) := by decide +kernel
theorem dL_refused_631 : decode cL_refused 631 = .ok (.iconst (-1), 1) := by decide +kernel
theorem dL_refused_632 : decode cL_refused 632 = .ok (.if_icmp .ne 136, 3) := by decide +kernel
theorem dL_refused_635 : decode cL_refused 635 = .ok (.aload_n 0, 1) := by decide +kernel
theorem dL_refused_636 : decode cL_refused 636 = .ok (.iconst 0, 1) := by decide +kernel
theorem dL_refused_637 : decode cL_refused 637 = .ok (.iconst 0, 1) := by decide +kernel
theorem dL_refused_638 : decode cL_refused 638 = .ok (.bipush 63, 2) := by decide +kernel
theorem dL_refused_640 : decode cL_refused 640 = .ok (.iconst 0, 1) := by decide +kernel
theorem dL_refused_641 : decode cL_refused 641 = .ok (.iconst 0, 1) := by decide +kernel
theorem dL_refused_642 : decode cL_refused 642 = .ok (.invokestatic 120, 3) := by decide +kernel
theorem dL_refused_645 : decode cL_refused 645 = .ok (.bipush (-2), 2) := by decide +kernel
theorem dL_refused_647 : decode cL_refused 647 = .ok (.if_icmp .ne 121, 3) := by decide +kernel
theorem dL_refused_650 : decode cL_refused 650 = .ok (.aload_n 0, 1) := by decide +kernel
theorem dL_refused_651 : decode cL_refused 651 = .ok (.iconst 0, 1) := by decide +kernel
theorem dL_refused_652 : decode cL_refused 652 = .ok (.iconst 1, 1) := by decide +kernel
theorem dL_refused_653 : decode cL_refused 653 = .ok (.iconst (-1), 1) := by decide +kernel
theorem dL_refused_654 : decode cL_refused 654 = .ok (.iconst 0, 1) := by decide +kernel
theorem dL_refused_655 : decode cL_refused 655 = .ok (.iconst 0, 1) := by decide +kernel
theorem dL_refused_656 : decode cL_refused 656 = .ok (.invokestatic 120, 3) := by decide +kernel
theorem dL_refused_659 : decode cL_refused 659 = .ok (.bipush (-2), 2) := by decide +kernel
theorem dL_refused_661 : decode cL_refused 661 = .ok (.if_icmp .ne 107, 3) := by decide +kernel
theorem dL_refused_664 : decode cL_refused 664 = .ok (.aload_n 0, 1) := by decide +kernel
theorem dL_refused_665 : decode cL_refused 665 = .ok (.iconst 0, 1) := by decide +kernel
theorem dL_refused_666 : decode cL_refused 666 = .ok (.iconst 0, 1) := by decide +kernel
theorem dL_refused_667 : decode cL_refused 667 = .ok (.iconst 0, 1) := by decide +kernel
theorem dL_refused_668 : decode cL_refused 668 = .ok (.iconst 4, 1) := by decide +kernel
theorem dL_refused_669 : decode cL_refused 669 = .ok (.iconst 0, 1) := by decide +kernel
theorem dL_refused_670 : decode cL_refused 670 = .ok (.invokestatic 120, 3) := by decide +kernel
theorem dL_refused_673 : decode cL_refused 673 = .ok (.bipush (-2), 2) := by decide +kernel
theorem dL_refused_675 : decode cL_refused 675 = .ok (.if_icmp .ne 93, 3) := by decide +kernel
theorem dL_refused_678 : decode cL_refused 678 = .ok (.aload_n 0, 1) := by decide +kernel
theorem dL_refused_679 : decode cL_refused 679 = .ok (.iconst 0, 1) := by decide +kernel
theorem dL_refused_680 : decode cL_refused 680 = .ok (.iconst 1, 1) := by decide +kernel
theorem dL_refused_681 : decode cL_refused 681 = .ok (.iconst 0, 1) := by decide +kernel
theorem dL_refused_682 : decode cL_refused 682 = .ok (.iconst 0, 1) := by decide +kernel
theorem dL_refused_683 : decode cL_refused 683 = .ok (.bipush 10, 2) := by decide +kernel
theorem dL_refused_685 : decode cL_refused 685 = .ok (.invokestatic 120, 3) := by decide +kernel
theorem dL_refused_688 : decode cL_refused 688 = .ok (.bipush (-2), 2) := by decide +kernel
theorem dL_refused_690 : decode cL_refused 690 = .ok (.if_icmp .ne 78, 3) := by decide +kernel
theorem dL_refused_693 : decode cL_refused 693 = .ok (.aload_n 0, 1) := by decide +kernel
theorem dL_refused_694 : decode cL_refused 694 = .ok (.iconst 0, 1) := by decide +kernel
theorem dL_refused_695 : decode cL_refused 695 = .ok (.iconst (-1), 1) := by decide +kernel
theorem dL_refused_696 : decode cL_refused 696 = .ok (.iconst 0, 1) := by decide +kernel
theorem dL_refused_697 : decode cL_refused 697 = .ok (.invokestatic 124, 3) := by decide +kernel
theorem dL_refused_700 : decode cL_refused 700 = .ok (.iconst (-1), 1) := by decide +kernel
theorem dL_refused_701 : decode cL_refused 701 = .ok (.if_icmp .ne 67, 3) := by decide +kernel
theorem dL_refused_704 : decode cL_refused 704 = .ok (.aload_n 0, 1) := by decide +kernel
theorem dL_refused_705 : decode cL_refused 705 = .ok (.iconst 0, 1) := by decide +kernel
theorem dL_refused_706 : decode cL_refused 706 = .ok (.iconst 0, 1) := by decide +kernel
theorem dL_refused_707 : decode cL_refused 707 = .ok (.bipush 10, 2) := by decide +kernel
theorem dL_refused_709 : decode cL_refused 709 = .ok (.invokestatic 124, 3) := by decide +kernel
theorem dL_refused_712 : decode cL_refused 712 = .ok (.bipush (-2), 2) := by decide +kernel
theorem dL_refused_714 : decode cL_refused 714 = .ok (.if_icmp .ne 54, 3) := by decide +kernel
theorem dL_refused_717 : decode cL_refused 717 = .ok (.aload_n 0, 1) := by decide +kernel
theorem dL_refused_718 : decode cL_refused 718 = .ok (.iconst 0, 1) := by decide +kernel
theorem dL_refused_719 : decode cL_refused 719 = .ok (.iconst 1, 1) := by decide +kernel
theorem dL_refused_720 : decode cL_refused 720 = .ok (.iconst (-1), 1) := by decide +kernel
theorem dL_refused_721 : decode cL_refused 721 = .ok (.invokestatic 124, 3) := by decide +kernel
theorem dL_refused_724 : decode cL_refused 724 = .ok (.bipush (-2), 2) := by decide +kernel
theorem dL_refused_726 : decode cL_refused 726 = .ok (.if_icmp .ne 42, 3) := by decide +kernel
theorem dL_refused_729 : decode cL_refused 729 = .ok (.aload_n 0, 1) := by decide +kernel
theorem dL_refused_730 : decode cL_refused 730 = .ok (.iconst 0, 1) := by decide +kernel
theorem dL_refused_731 : decode cL_refused 731 = .ok (.iconst 2, 1) := by decide +kernel
theorem dL_refused_732 : decode cL_refused 732 = .ok (.iconst 0, 1) := by decide +kernel
theorem dL_refused_733 : decode cL_refused 733 = .ok (.invokestatic 127, 3) := by decide +kernel
theorem dL_refused_736 : decode cL_refused 736 = .ok (.iconst (-1), 1) := by decide +kernel
theorem dL_refused_737 : decode cL_refused 737 = .ok (.if_icmp .ne 31, 3) := by decide +kernel
theorem dL_refused_740 : decode cL_refused 740 = .ok (.aload_n 0, 1) := by decide +kernel
theorem dL_refused_741 : decode cL_refused 741 = .ok (.iconst 0, 1) := by decide +kernel
theorem dL_refused_742 : decode cL_refused 742 = .ok (.iconst 0, 1) := by decide +kernel
theorem dL_refused_743 : decode cL_refused 743 = .ok (.iconst (-1), 1) := by decide +kernel
theorem dL_refused_744 : decode cL_refused 744 = .ok (.invokestatic 127, 3) := by decide +kernel
theorem dL_refused_747 : decode cL_refused 747 = .ok (.iconst (-1), 1) := by decide +kernel
theorem dL_refused_748 : decode cL_refused 748 = .ok (.if_icmp .ne 20, 3) := by decide +kernel
theorem dL_refused_751 : decode cL_refused 751 = .ok (.aload_n 0, 1) := by decide +kernel
theorem dL_refused_752 : decode cL_refused 752 = .ok (.iconst 0, 1) := by decide +kernel
theorem dL_refused_753 : decode cL_refused 753 = .ok (.iconst 1, 1) := by decide +kernel
theorem dL_refused_754 : decode cL_refused 754 = .ok (.aload_n 0, 1) := by decide +kernel
theorem dL_refused_755 : decode cL_refused 755 = .ok (.iconst 0, 1) := by decide +kernel
theorem dL_refused_756 : decode cL_refused 756 = .ok (.bipush 9, 2) := by decide +kernel
theorem dL_refused_758 : decode cL_refused 758 = .ok (.invokevirtual 39, 3) := by decide +kernel
theorem dL_refused_761 : decode cL_refused 761 = .ok (.invokestatic 127, 3) := by decide +kernel
theorem dL_refused_764 : decode cL_refused 764 = .ok (.iconst (-1), 1) := by decide +kernel
theorem dL_refused_765 : decode cL_refused 765 = .ok (.if_icmp .eq 5, 3) := by decide +kernel
theorem dL_refused_768 : decode cL_refused 768 = .ok (.iconst 0, 1) := by decide +kernel
theorem dL_refused_769 : decode cL_refused 769 = .ok (.ireturn, 1) := by decide +kernel
theorem dL_refused_770 : decode cL_refused 770 = .ok (.iload_n 3, 1) := by decide +kernel
theorem dL_refused_771 : decode cL_refused 771 = .ok (.ifCond .le 166, 3) := by decide +kernel
theorem dL_refused_774 : decode cL_refused 774 = .ok (.aload_n 0, 1) := by decide +kernel
theorem dL_refused_775 : decode cL_refused 775 = .ok (.iconst 0, 1) := by decide +kernel
theorem dL_refused_776 : decode cL_refused 776 = .ok (.iconst (-1), 1) := by decide +kernel
theorem dL_refused_777 : decode cL_refused 777 = .ok (.invokestatic 130, 3) := by decide +kernel
theorem dL_refused_780 : decode cL_refused 780 = .ok (.sipush (-2002), 3) := by decide +kernel
theorem dL_refused_783 : decode cL_refused 783 = .ok (.if_icmp .ne 152, 3) := by decide +kernel
theorem dL_refused_786 : decode cL_refused 786 = .ok (.aload_n 0, 1) := by decide +kernel
theorem dL_refused_787 : decode cL_refused 787 = .ok (.iload_n 3, 1) := by decide +kernel
theorem dL_refused_788 : decode cL_refused 788 = .ok (.iconst 1, 1) := by decide +kernel
theorem dL_refused_789 : decode cL_refused 789 = .ok (.isub, 1) := by decide +kernel
theorem dL_refused_790 : decode cL_refused 790 = .ok (.bipush 12, 2) := by decide +kernel
theorem dL_refused_792 : decode cL_refused 792 = .ok (.invokestatic 130, 3) := by decide +kernel
theorem dL_refused_795 : decode cL_refused 795 = .ok (.sipush (-2002), 3) := by decide +kernel
theorem dL_refused_798 : decode cL_refused 798 = .ok (.if_icmp .ne 137, 3) := by decide +kernel
theorem dL_refused_801 : decode cL_refused 801 = .ok (.aload_n 0, 1) := by decide +kernel
theorem dL_refused_802 : decode cL_refused 802 = .ok (.iconst 0, 1) := by decide +kernel
theorem dL_refused_803 : decode cL_refused 803 = .ok (.iconst 2, 1) := by decide +kernel
theorem dL_refused_804 : decode cL_refused 804 = .ok (.iconst 0, 1) := by decide +kernel
theorem dL_refused_805 : decode cL_refused 805 = .ok (.iconst 0, 1) := by decide +kernel
theorem dL_refused_806 : decode cL_refused 806 = .ok (.invokestatic 134, 3) := by decide +kernel
theorem dL_refused_809 : decode cL_refused 809 = .ok (.sipush (-2001), 3) := by decide +kernel
theorem dL_refused_812 : decode cL_refused 812 = .ok (.if_icmp .ne 123, 3) := by decide +kernel
theorem dL_refused_815 : decode cL_refused 815 = .ok (.aload_n 0, 1) := by decide +kernel
theorem dL_refused_816 : decode cL_refused 816 = .ok (.iconst 0, 1) := by decide +kernel
theorem dL_refused_817 : decode cL_refused 817 = .ok (.iconst 0, 1) := by decide +kernel
theorem dL_refused_818 : decode cL_refused 818 = .ok (.aload_n 0, 1) := by decide +kernel
theorem dL_refused_819 : decode cL_refused 819 = .ok (.iconst 0, 1) := by decide +kernel
theorem dL_refused_820 : decode cL_refused 820 = .ok (.bipush 8, 2) := by decide +kernel
theorem dL_refused_822 : decode cL_refused 822 = .ok (.invokevirtual 39, 3) := by decide +kernel
theorem dL_refused_825 : decode cL_refused 825 = .ok (.bipush 11, 2) := by decide +kernel
theorem dL_refused_827 : decode cL_refused 827 = .ok (.invokestatic 134, 3) := by decide +kernel
theorem dL_refused_830 : decode cL_refused 830 = .ok (.sipush (-2001), 3) := by decide +kernel
theorem dL_refused_833 : decode cL_refused 833 = .ok (.if_icmp .ne 102, 3) := by decide +kernel
theorem dL_refused_836 : decode cL_refused 836 = .ok (.aload_n 0, 1) := by decide +kernel
theorem dL_refused_837 : decode cL_refused 837 = .ok (.iconst 0, 1) := by decide +kernel
theorem dL_refused_838 : decode cL_refused 838 = .ok (.bipush 8, 2) := by decide +kernel
theorem dL_refused_840 : decode cL_refused 840 = .ok (.invokevirtual 39, 3) := by decide +kernel
theorem dL_refused_843 : decode cL_refused 843 = .ok (.ifCond .le 32, 3) := by decide +kernel
theorem dL_refused_846 : decode cL_refused 846 = .ok (.aload_n 0, 1) := by decide +kernel
theorem dL_refused_847 : decode cL_refused 847 = .ok (.iconst 0, 1) := by decide +kernel
theorem dL_refused_848 : decode cL_refused 848 = .ok (.iconst 0, 1) := by decide +kernel
theorem dL_refused_849 : decode cL_refused 849 = .ok (.iconst 0, 1) := by decide +kernel
theorem dL_refused_850 : decode cL_refused 850 = .ok (.bipush 10, 2) := by decide +kernel
theorem dL_refused_852 : decode cL_refused 852 = .ok (.invokestatic 134, 3) := by decide +kernel
theorem dL_refused_855 : decode cL_refused 855 = .ok (.sipush (-2002), 3) := by decide +kernel
theorem dL_refused_858 : decode cL_refused 858 = .ok (.if_icmp .ne 77, 3) := by decide +kernel
theorem dL_refused_861 : decode cL_refused 861 = .ok (.aload_n 0, 1) := by decide +kernel
theorem dL_refused_862 : decode cL_refused 862 = .ok (.iconst 0, 1) := by decide +kernel
theorem dL_refused_863 : decode cL_refused 863 = .ok (.iconst 0, 1) := by decide +kernel
theorem dL_refused_864 : decode cL_refused 864 = .ok (.iconst 0, 1) := by decide +kernel
theorem dL_refused_865 : decode cL_refused 865 = .ok (.iconst (-1), 1) := by decide +kernel
theorem dL_refused_866 : decode cL_refused 866 = .ok (.invokestatic 134, 3) := by decide +kernel
theorem dL_refused_869 : decode cL_refused 869 = .ok (.sipush (-2002), 3) := by decide +kernel
theorem dL_refused_872 : decode cL_refused 872 = .ok (.if_icmp .ne 63, 3) := by decide +kernel
theorem dL_refused_875 : decode cL_refused 875 = .ok (.aload_n 0, 1) := by decide +kernel
theorem dL_refused_876 : decode cL_refused 876 = .ok (.iconst 0, 1) := by decide +kernel
theorem dL_refused_877 : decode cL_refused 877 = .ok (.iconst 2, 1) := by decide +kernel
theorem dL_refused_878 : decode cL_refused 878 = .ok (.iconst 0, 1) := by decide +kernel
theorem dL_refused_879 : decode cL_refused 879 = .ok (.invokestatic 138, 3) := by decide +kernel
theorem dL_refused_882 : decode cL_refused 882 = .ok (.iconst (-1), 1) := by decide +kernel
theorem dL_refused_883 : decode cL_refused 883 = .ok (.if_icmp .ne 52, 3) := by decide +kernel
theorem dL_refused_886 : decode cL_refused 886 = .ok (.aload_n 0, 1) := by decide +kernel
theorem dL_refused_887 : decode cL_refused 887 = .ok (.iconst 0, 1) := by decide +kernel
theorem dL_refused_888 : decode cL_refused 888 = .ok (.iconst 1, 1) := by decide +kernel
theorem dL_refused_889 : decode cL_refused 889 = .ok (.iconst (-1), 1) := by decide +kernel
theorem dL_refused_890 : decode cL_refused 890 = .ok (.invokestatic 138, 3) := by decide +kernel
theorem dL_refused_893 : decode cL_refused 893 = .ok (.bipush (-2), 2) := by decide +kernel
theorem dL_refused_895 : decode cL_refused 895 = .ok (.if_icmp .ne 40, 3) := by decide +kernel
theorem dL_refused_898 : decode cL_refused 898 = .ok (.aload_n 0, 1) := by decide +kernel
theorem dL_refused_899 : decode cL_refused 899 = .ok (.iconst 0, 1) := by decide +kernel
theorem dL_refused_900 : decode cL_refused 900 = .ok (.iconst (-1), 1) := by decide +kernel
theorem dL_refused_901 : decode cL_refused 901 = .ok (.invokestatic 150, 3) := by decide +kernel
theorem dL_refused_904 : decode cL_refused 904 = .ok (.bipush (-2), 2) := by decide +kernel
theorem dL_refused_906 : decode cL_refused 906 = .ok (.if_icmp .ne 29, 3) := by decide +kernel
theorem dL_refused_909 : decode cL_refused 909 = .ok (.aload_n 0, 1) := by decide +kernel
theorem dL_refused_910 : decode cL_refused 910 = .ok (.iconst 0, 1) := by decide +kernel
theorem dL_refused_911 : decode cL_refused 911 = .ok (.bipush 8, 2) := by decide +kernel
theorem dL_refused_913 : decode cL_refused 913 = .ok (.invokestatic 165, 3) := by decide +kernel
theorem dL_refused_916 : decode cL_refused 916 = .ok (.bipush (-2), 2) := by decide +kernel
theorem dL_refused_918 : decode cL_refused 918 = .ok (.if_icmp .ne 17, 3) := by decide +kernel
theorem dL_refused_921 : decode cL_refused 921 = .ok (.aload_n 0, 1) := by decide +kernel
theorem dL_refused_922 : decode cL_refused 922 = .ok (.iload_n 3, 1) := by decide +kernel
theorem dL_refused_923 : decode cL_refused 923 = .ok (.iconst 1, 1) := by decide +kernel
theorem dL_refused_924 : decode cL_refused 924 = .ok (.isub, 1) := by decide +kernel
theorem dL_refused_925 : decode cL_refused 925 = .ok (.bipush (-8), 2) := by decide +kernel
theorem dL_refused_927 : decode cL_refused 927 = .ok (.invokestatic 165, 3) := by decide +kernel
theorem dL_refused_930 : decode cL_refused 930 = .ok (.bipush (-2), 2) := by decide +kernel
theorem dL_refused_932 : decode cL_refused 932 = .ok (.if_icmp .eq 5, 3) := by decide +kernel
theorem dL_refused_935 : decode cL_refused 935 = .ok (.iconst 0, 1) := by decide +kernel
theorem dL_refused_936 : decode cL_refused 936 = .ok (.ireturn, 1) := by decide +kernel
theorem dL_refused_937 : decode cL_refused 937 = .ok (.aload_n 0, 1) := by decide +kernel
theorem dL_refused_938 : decode cL_refused 938 = .ok (.invokevirtual 106, 3) := by decide +kernel
theorem dL_refused_941 : decode cL_refused 941 = .ok (.lload_n 1, 1) := by decide +kernel
theorem dL_refused_942 : decode cL_refused 942 = .ok (.lcmp, 1) := by decide +kernel
theorem dL_refused_943 : decode cL_refused 943 = .ok (.ifCond .ne 7, 3) := by decide +kernel
theorem dL_refused_946 : decode cL_refused 946 = .ok (.iconst 1, 1) := by decide +kernel
theorem dL_refused_947 : decode cL_refused 947 = .ok (.goto 4, 3) := by decide +kernel
theorem dL_refused_950 : decode cL_refused 950 = .ok (.iconst 0, 1) := by decide +kernel
theorem dL_refused_951 : decode cL_refused 951 = .ok (.ireturn, 1) := by decide +kernel
theorem dL_full_0 : decode cL_full 0 = .ok (.new 10, 3) := by decide +kernel
theorem dL_full_3 : decode cL_full 3 = .ok (.dup, 1) := by decide +kernel
theorem dL_full_4 : decode cL_full 4 = .ok (.invokespecial 192, 3) := by decide +kernel
theorem dL_full_7 : decode cL_full 7 = .ok (.astore_n 0, 1) := by decide +kernel
theorem dL_full_8 : decode cL_full 8 = .ok (.iconst 0, 1) := by decide +kernel
theorem dL_full_9 : decode cL_full 9 = .ok (.istore_n 1, 1) := by decide +kernel
theorem dL_full_10 : decode cL_full 10 = .ok (.iload_n 1, 1) := by decide +kernel
theorem dL_full_11 : decode cL_full 11 = .ok (.bipush 16, 2) := by decide +kernel
theorem dL_full_13 : decode cL_full 13 = .ok (.if_icmp .ge 19, 3) := by decide +kernel
theorem dL_full_16 : decode cL_full 16 = .ok (.aload_n 0, 1) := by decide +kernel
theorem dL_full_17 : decode cL_full 17 = .ok (.invokestatic 193, 3) := by decide +kernel
theorem dL_full_20 : decode cL_full 20 = .ok (.iload_n 1, 1) := by decide +kernel
theorem dL_full_21 : decode cL_full 21 = .ok (.if_icmp .eq 5, 3) := by decide +kernel
theorem dL_full_24 : decode cL_full 24 = .ok (.iconst 0, 1) := by decide +kernel
theorem dL_full_25 : decode cL_full 25 = .ok (.ireturn, 1) := by decide +kernel
theorem dL_full_26 : decode cL_full 26 = .ok (.iinc 1 1, 3) := by decide +kernel
theorem dL_full_29 : decode cL_full 29 = .ok (.goto (-19), 3) := by decide +kernel
theorem dL_full_32 : decode cL_full 32 = .ok (.iconst 1, 1) := by decide +kernel
theorem dL_full_33 : decode cL_full 33 = .ok (.istore_n 1, 1) := by decide +kernel
theorem dL_full_34 : decode cL_full 34 = .ok (.iload_n 1, 1) := by decide +kernel
theorem dL_full_35 : decode cL_full 35 = .ok (.bipush 24, 2) := by decide +kernel
theorem dL_full_37 : decode cL_full 37 = .ok (.if_icmp .gt 40, 3) := by decide +kernel
theorem dL_full_40 : decode cL_full 40 = .ok (.aload_n 0, 1) := by decide +kernel
theorem dL_full_41 : decode cL_full 41 = .ok (.bipush 15, 2) := by decide +kernel
theorem dL_full_43 : decode cL_full 43 = .ok (.iconst 0, 1) := by decide +kernel
theorem dL_full_44 : decode cL_full 44 = .ok (.bipush 62, 2) := by decide +kernel
theorem dL_full_46 : decode cL_full 46 = .ok (.iconst 3, 1) := by decide +kernel
theorem dL_full_47 : decode cL_full 47 = .ok (.bipush 9, 2) := by decide +kernel
theorem dL_full_49 : decode cL_full 49 = .ok (.invokestatic 120, 3) := by decide +kernel
theorem dL_full_52 : decode cL_full 52 = .ok (.iload_n 1, 1) := by decide +kernel
theorem dL_full_53 : decode cL_full 53 = .ok (.if_icmp .ne 16, 3) := by decide +kernel
theorem dL_full_56 : decode cL_full 56 = .ok (.aload_n 0, 1) := by decide +kernel
theorem dL_full_57 : decode cL_full 57 = .ok (.bipush 15, 2) := by decide +kernel
theorem dL_full_59 : decode cL_full 59 = .ok (.iconst 1, 1) := by decide +kernel
theorem dL_full_60 : decode cL_full 60 = .ok (.bipush 8, 2) := by decide +kernel
theorem dL_full_62 : decode cL_full 62 = .ok (.invokestatic 124, 3) := by decide +kernel
theorem dL_full_65 : decode cL_full 65 = .ok (.iload_n 1, 1) := by decide +kernel
theorem dL_full_66 : decode cL_full 66 = .ok (.if_icmp .eq 5, 3) := by decide +kernel
theorem dL_full_69 : decode cL_full 69 = .ok (.iconst 0, 1) := by decide +kernel
theorem dL_full_70 : decode cL_full 70 = .ok (.ireturn, 1) := by decide +kernel
theorem dL_full_71 : decode cL_full 71 = .ok (.iinc 1 1, 3) := by decide +kernel
theorem dL_full_74 : decode cL_full 74 = .ok (.goto (-40), 3) := by decide +kernel
theorem dL_full_77 : decode cL_full 77 = .ok (.aload_n 0, 1) := by decide +kernel
theorem dL_full_78 : decode cL_full 78 = .ok (.invokestatic 193, 3) := by decide +kernel
theorem dL_full_81 : decode cL_full 81 = .ok (.iconst (-1), 1) := by decide +kernel
theorem dL_full_82 : decode cL_full 82 = .ok (.if_icmp .ne 88, 3) := by decide +kernel
theorem dL_full_85 : decode cL_full 85 = .ok (.aload_n 0, 1) := by decide +kernel
theorem dL_full_86 : decode cL_full 86 = .ok (.bipush 15, 2) := by decide +kernel
theorem dL_full_88 : decode cL_full 88 = .ok (.iconst 0, 1) := by decide +kernel
theorem dL_full_89 : decode cL_full 89 = .ok (.iconst 0, 1) := by decide +kernel
theorem dL_full_90 : decode cL_full 90 = .ok (.iconst 0, 1) := by decide +kernel
theorem dL_full_91 : decode cL_full 91 = .ok (.iconst 0, 1) := by decide +kernel
theorem dL_full_92 : decode cL_full 92 = .ok (.invokestatic 120, 3) := by decide +kernel
theorem dL_full_95 : decode cL_full 95 = .ok (.bipush (-3), 2) := by decide +kernel
theorem dL_full_97 : decode cL_full 97 = .ok (.if_icmp .ne 73, 3) := by decide +kernel
theorem dL_full_100 : decode cL_full 100 = .ok (.aload_n 0, 1) := by decide +kernel
theorem dL_full_101 : decode cL_full 101 = .ok (.bipush 15, 2) := by decide +kernel
theorem dL_full_103 : decode cL_full 103 = .ok (.iconst 1, 1) := by decide +kernel
theorem dL_full_104 : decode cL_full 104 = .ok (.iconst 0, 1) := by decide +kernel
theorem dL_full_105 : decode cL_full 105 = .ok (.invokestatic 124, 3) := by decide +kernel
theorem dL_full_108 : decode cL_full 108 = .ok (.bipush (-3), 2) := by decide +kernel
theorem dL_full_110 : decode cL_full 110 = .ok (.if_icmp .ne 60, 3) := by decide +kernel
theorem dL_full_113 : decode cL_full 113 = .ok (.aload_n 0, 1) := by decide +kernel
theorem dL_full_114 : decode cL_full 114 = .ok (.bipush 15, 2) := by decide +kernel
theorem dL_full_116 : decode cL_full 116 = .ok (.iconst 1, 1) := by decide +kernel
theorem dL_full_117 : decode cL_full 117 = .ok (.bipush 63, 2) := by decide +kernel
theorem dL_full_119 : decode cL_full 119 = .ok (.iconst 0, 1) := by decide +kernel
theorem dL_full_120 : decode cL_full 120 = .ok (.iconst 0, 1) := by decide +kernel
theorem dL_full_121 : decode cL_full 121 = .ok (.invokestatic 120, 3) := by decide +kernel
theorem dL_full_124 : decode cL_full 124 = .ok (.bipush (-2), 2) := by decide +kernel
theorem dL_full_126 : decode cL_full 126 = .ok (.if_icmp .ne 44, 3) := by decide +kernel
theorem dL_full_129 : decode cL_full 129 = .ok (.aload_n 0, 1) := by decide +kernel
theorem dL_full_130 : decode cL_full 130 = .ok (.bipush 15, 2) := by decide +kernel
theorem dL_full_132 : decode cL_full 132 = .ok (.iconst 0, 1) := by decide +kernel
theorem dL_full_133 : decode cL_full 133 = .ok (.bipush 10, 2) := by decide +kernel
theorem dL_full_135 : decode cL_full 135 = .ok (.invokestatic 124, 3) := by decide +kernel
theorem dL_full_138 : decode cL_full 138 = .ok (.bipush (-2), 2) := by decide +kernel
theorem dL_full_140 : decode cL_full 140 = .ok (.if_icmp .ne 30, 3) := by decide +kernel
theorem dL_full_143 : decode cL_full 143 = .ok (.aload_n 0, 1) := by decide +kernel
theorem dL_full_144 : decode cL_full 144 = .ok (.bipush 15, 2) := by decide +kernel
theorem dL_full_146 : decode cL_full 146 = .ok (.invokestatic 156, 3) := by decide +kernel
theorem dL_full_149 : decode cL_full 149 = .ok (.bipush (-2), 2) := by decide +kernel
theorem dL_full_151 : decode cL_full 151 = .ok (.if_icmp .ne 19, 3) := by decide +kernel
theorem dL_full_154 : decode cL_full 154 = .ok (.aload_n 0, 1) := by decide +kernel
theorem dL_full_155 : decode cL_full 155 = .ok (.bipush 8, 2) := by decide +kernel
theorem dL_full_157 : decode cL_full 157 = .ok (.invokevirtual 53, 3) := by decide +kernel
theorem dL_full_160 : decode cL_full 160 = .ok (.ifCond .ne 10, 3) := by decide +kernel
theorem dL_full_163 : decode cL_full 163 = .ok (.aload_n 0, 1) := by decide +kernel
theorem dL_full_164 : decode cL_full 164 = .ok (.invokestatic 197, 3) := by decide +kernel
theorem dL_full_167 : decode cL_full 167 = .ok (.ifCond .ne 5, 3) := by decide +kernel
theorem dL_full_170 : decode cL_full 170 = .ok (.iconst 0, 1) := by decide +kernel
theorem dL_full_171 : decode cL_full 171 = .ok (.ireturn, 1) := by decide +kernel
theorem dL_full_172 : decode cL_full 172 = .ok (.aload_n 0, 1) := by decide +kernel
theorem dL_full_173 : decode cL_full 173 = .ok (.bipush 15, 2) := by decide +kernel
theorem dL_full_175 : decode cL_full 175 = .ok (.invokevirtual 69, 3) := by decide +kernel
theorem dL_full_178 : decode cL_full 178 = .ok (.sipush 1202, 3) := by decide +kernel
theorem dL_full_181 : decode cL_full 181 = .ok (.if_icmp .ne 76, 3) := by decide +kernel
theorem dL_full_184 : decode cL_full 184 = .ok (.aload_n 0, 1) := by decide +kernel
theorem dL_full_185 : decode cL_full 185 = .ok (.bipush 15, 2) := by decide +kernel
theorem dL_full_187 : decode cL_full 187 = .ok (.invokevirtual 75, 3) := by decide +kernel
theorem dL_full_190 : decode cL_full 190 = .ok (.sipush 199, 3) := by decide +kernel
theorem dL_full_193 : decode cL_full 193 = .ok (.if_icmp .ne 64, 3) := by decide +kernel
theorem dL_full_196 : decode cL_full 196 = .ok (.aload_n 0, 1) := by decide +kernel
theorem dL_full_197 : decode cL_full 197 = .ok (.bipush 15, 2) := by decide +kernel
theorem dL_full_199 : decode cL_full 199 = .ok (.iconst 0, 1) := by decide +kernel
theorem dL_full_200 : decode cL_full 200 = .ok (.iconst 0, 1) := by decide +kernel
theorem dL_full_201 : decode cL_full 201 = .ok (.bipush 8, 2) := by decide +kernel
theorem dL_full_203 : decode cL_full 203 = .ok (.invokevirtual 43, 3) := by decide +kernel
theorem dL_full_206 : decode cL_full 206 = .ok (.sipush 144, 3) := by decide +kernel
theorem dL_full_209 : decode cL_full 209 = .ok (.if_icmp .ne 48, 3) := by decide +kernel
theorem dL_full_212 : decode cL_full 212 = .ok (.aload_n 0, 1) := by decide +kernel
theorem dL_full_213 : decode cL_full 213 = .ok (.bipush 15, 2) := by decide +kernel
theorem dL_full_215 : decode cL_full 215 = .ok (.iconst 0, 1) := by decide +kernel
theorem dL_full_216 : decode cL_full 216 = .ok (.bipush 23, 2) := by decide +kernel
theorem dL_full_218 : decode cL_full 218 = .ok (.bipush 9, 2) := by decide +kernel
theorem dL_full_220 : decode cL_full 220 = .ok (.invokevirtual 43, 3) := by decide +kernel
theorem dL_full_223 : decode cL_full 223 = .ok (.iconst 1, 1) := by decide +kernel
theorem dL_full_224 : decode cL_full 224 = .ok (.if_icmp .ne 33, 3) := by decide +kernel
theorem dL_full_227 : decode cL_full 227 = .ok (.aload_n 0, 1) := by decide +kernel
theorem dL_full_228 : decode cL_full 228 = .ok (.bipush 15, 2) := by decide +kernel
theorem dL_full_230 : decode cL_full 230 = .ok (.iconst 0, 1) := by decide +kernel
theorem dL_full_231 : decode cL_full 231 = .ok (.bipush 22, 2) := by decide +kernel
theorem dL_full_233 : decode cL_full 233 = .ok (.bipush 9, 2) := by decide +kernel
theorem dL_full_235 : decode cL_full 235 = .ok (.invokevirtual 43, 3) := by decide +kernel
theorem dL_full_238 : decode cL_full 238 = .ok (.ifCond .ne 19, 3) := by decide +kernel
theorem dL_full_241 : decode cL_full 241 = .ok (.aload_n 0, 1) := by decide +kernel
theorem dL_full_242 : decode cL_full 242 = .ok (.bipush 15, 2) := by decide +kernel
theorem dL_full_244 : decode cL_full 244 = .ok (.iconst 0, 1) := by decide +kernel
theorem dL_full_245 : decode cL_full 245 = .ok (.bipush 23, 2) := by decide +kernel
theorem dL_full_247 : decode cL_full 247 = .ok (.iconst 5, 1) := by decide +kernel
theorem dL_full_248 : decode cL_full 248 = .ok (.invokevirtual 43, 3) := by decide +kernel
theorem dL_full_251 : decode cL_full 251 = .ok (.sipush 138, 3) := by decide +kernel
theorem dL_full_254 : decode cL_full 254 = .ok (.if_icmp .eq 5, 3) := by decide +kernel
theorem dL_full_257 : decode cL_full 257 = .ok (.iconst 0, 1) := by decide +kernel
theorem dL_full_258 : decode cL_full 258 = .ok (.ireturn, 1) := by decide +kernel
theorem dL_full_259 : decode cL_full 259 = .ok (.iconst 1, 1) := by decide +kernel
theorem dL_full_260 : decode cL_full 260 = .ok (.istore_n 1, 1) := by decide +kernel
theorem dL_full_261 : decode cL_full 261 = .ok (.iload_n 1, 1) := by decide +kernel
theorem dL_full_262 : decode cL_full 262 = .ok (.sipush 600, 3) := by decide +kernel
theorem dL_full_265 : decode cL_full 265 = .ok (.if_icmp .gt 24, 3) := by decide +kernel
theorem dL_full_268 : decode cL_full 268 = .ok (.aload_n 0, 1) := by decide +kernel
theorem dL_full_269 : decode cL_full 269 = .ok (.iload_n 1, 1) := by decide +kernel
theorem dL_full_270 : decode cL_full 270 = .ok (.sipush 128, 3) := by decide +kernel
theorem dL_full_273 : decode cL_full 273 = .ok (.irem, 1) := by decide +kernel
theorem dL_full_274 : decode cL_full 274 = .ok (.invokestatic 186, 3) := by decide +kernel
theorem dL_full_277 : decode cL_full 277 = .ok (.iload_n 1, 1) := by decide +kernel
theorem dL_full_278 : decode cL_full 278 = .ok (.if_icmp .eq 5, 3) := by decide +kernel
theorem dL_full_281 : decode cL_full 281 = .ok (.iconst 0, 1) := by decide +kernel
theorem dL_full_282 : decode cL_full 282 = .ok (.ireturn, 1) := by decide +kernel
theorem dL_full_283 : decode cL_full 283 = .ok (.iinc 1 1, 3) := by decide +kernel
theorem dL_full_286 : decode cL_full 286 = .ok (.goto (-25), 3) := by decide +kernel
theorem dL_full_289 : decode cL_full 289 = .ok (.aload_n 0, 1) := by decide +kernel
theorem dL_full_290 : decode cL_full 290 = .ok (.bipush 65, 2) := by decide +kernel
theorem dL_full_292 : decode cL_full 292 = .ok (.invokestatic 186, 3) := by decide +kernel
theorem dL_full_295 : decode cL_full 295 = .ok (.bipush (-2), 2) := by decide +kernel
theorem dL_full_297 : decode cL_full 297 = .ok (.if_icmp .ne 48, 3) := by decide +kernel
theorem dL_full_300 : decode cL_full 300 = .ok (.aload_n 0, 1) := by decide +kernel
theorem dL_full_301 : decode cL_full 301 = .ok (.sipush 128, 3) := by decide +kernel
theorem dL_full_304 : decode cL_full 304 = .ok (.invokestatic 186, 3) := by decide +kernel
theorem dL_full_307 : decode cL_full 307 = .ok (.iconst (-1), 1) := by decide +kernel
theorem dL_full_308 : decode cL_full 308 = .ok (.if_icmp .ne 37, 3) := by decide +kernel
theorem dL_full_311 : decode cL_full 311 = .ok (.aload_n 0, 1) := by decide +kernel
theorem dL_full_312 : decode cL_full 312 = .ok (.invokestatic 197, 3) := by decide +kernel
theorem dL_full_315 : decode cL_full 315 = .ok (.ifCond .eq 30, 3) := by decide +kernel
theorem dL_full_318 : decode cL_full 318 = .ok (.aload_n 0, 1) := by decide +kernel
theorem dL_full_319 : decode cL_full 319 = .ok (.sipush 600, 3) := by decide +kernel
theorem dL_full_322 : decode cL_full 322 = .ok (.invokevirtual 84, 3) := by decide +kernel
theorem dL_full_325 : decode cL_full 325 = .ok (.ifCond .ne 20, 3) := by decide +kernel
theorem dL_full_328 : decode cL_full 328 = .ok (.aload_n 0, 1) := by decide +kernel
theorem dL_full_329 : decode cL_full 329 = .ok (.iconst 1, 1) := by decide +kernel
theorem dL_full_330 : decode cL_full 330 = .ok (.invokestatic 189, 3) := by decide +kernel
theorem dL_full_333 : decode cL_full 333 = .ok (.bipush (-2), 2) := by decide +kernel
theorem dL_full_335 : decode cL_full 335 = .ok (.if_icmp .ne 10, 3) := by decide +kernel
theorem dL_full_338 : decode cL_full 338 = .ok (.aload_n 0, 1) := by decide +kernel
theorem dL_full_339 : decode cL_full 339 = .ok (.invokevirtual 201, 3) := by decide +kernel
theorem dL_full_342 : decode cL_full 342 = .ok (.ifCond .eq 5, 3) := by decide +kernel
theorem dL_full_345 : decode cL_full 345 = .ok (.iconst 0, 1) := by decide +kernel
theorem dL_full_346 : decode cL_full 346 = .ok (.ireturn, 1) := by decide +kernel
theorem dL_full_347 : decode cL_full 347 = .ok (.aload_n 0, 1) := by decide +kernel
theorem dL_full_348 : decode cL_full 348 = .ok (.iconst 0, 1) := by decide +kernel
theorem dL_full_349 : decode cL_full 349 = .ok (.invokevirtual 17, 3) := by decide +kernel
theorem dL_full_352 : decode cL_full 352 = .ok (.bipush 15, 2) := by decide +kernel
theorem dL_full_354 : decode cL_full 354 = .ok (.if_icmp .ne 40, 3) := by decide +kernel
theorem dL_full_357 : decode cL_full 357 = .ok (.aload_n 0, 1) := by decide +kernel
theorem dL_full_358 : decode cL_full 358 = .ok (.bipush 14, 2) := by decide +kernel
theorem dL_full_360 : decode cL_full 360 = .ok (.bipush 8, 2) := by decide +kernel
theorem dL_full_362 : decode cL_full 362 = .ok (.invokevirtual 39, 3) := by decide +kernel
theorem dL_full_365 : decode cL_full 365 = .ok (.bipush 24, 2) := by decide +kernel
theorem dL_full_367 : decode cL_full 367 = .ok (.if_icmp .ne 27, 3) := by decide +kernel
theorem dL_full_370 : decode cL_full 370 = .ok (.aload_n 0, 1) := by decide +kernel
theorem dL_full_371 : decode cL_full 371 = .ok (.invokestatic 193, 3) := by decide +kernel
theorem dL_full_374 : decode cL_full 374 = .ok (.bipush 15, 2) := by decide +kernel
theorem dL_full_376 : decode cL_full 376 = .ok (.if_icmp .ne 18, 3) := by decide +kernel
theorem dL_full_379 : decode cL_full 379 = .ok (.aload_n 0, 1) := by decide +kernel
theorem dL_full_380 : decode cL_full 380 = .ok (.bipush 15, 2) := by decide +kernel
theorem dL_full_382 : decode cL_full 382 = .ok (.bipush 8, 2) := by decide +kernel
theorem dL_full_384 : decode cL_full 384 = .ok (.invokevirtual 39, 3) := by decide +kernel
theorem dL_full_387 : decode cL_full 387 = .ok (.ifCond .ne 7, 3) := by decide +kernel
theorem dL_full_390 : decode cL_full 390 = .ok (.iconst 1, 1) := by decide +kernel
theorem dL_full_391 : decode cL_full 391 = .ok (.goto 4, 3) := by decide +kernel
theorem dL_full_394 : decode cL_full 394 = .ok (.iconst 0, 1) := by decide +kernel
theorem dL_full_395 : decode cL_full 395 = .ok (.ireturn, 1) := by decide +kernel
theorem dL_types_0 : decode cL_types 0 = .ok (.bipush 7, 2) := by decide +kernel
theorem dL_types_2 : decode cL_types 2 = .ok (.istore_n 3, 1) := by decide +kernel
theorem dL_types_3 : decode cL_types 3 = .ok (.iload_n 3, 1) := by decide +kernel
theorem dL_types_4 : decode cL_types 4 = .ok (.ifCond .lt 34, 3) := by decide +kernel
theorem dL_types_7 : decode cL_types 7 = .ok (.lload_n 1, 1) := by decide +kernel
theorem dL_types_8 : decode cL_types 8 = .ok (.bipush 8, 2) := by decide +kernel
theorem dL_types_10 : decode cL_types 10 = .ok (.iload_n 3, 1) := by decide +kernel
theorem dL_types_11 : decode cL_types 11 = .ok (.imul, 1) := by decide +kernel
theorem dL_types_12 : decode cL_types 12 = .ok (.lshr, 1) := by decide +kernel
theorem dL_types_13 : decode cL_types 13 = .ok (.ldc2_w 204, 3) := by decide +kernel
theorem dL_types_16 : decode cL_types 16 = .ok (.land, 1) := by decide +kernel
theorem dL_types_17 : decode cL_types 17 = .ok (.l2i, 1) := by decide +kernel
theorem dL_types_18 : decode cL_types 18 = .ok (.istore 4, 2) := by decide +kernel
theorem dL_types_20 : decode cL_types 20 = .ok (.iload 4, 2) := by decide +kernel
theorem dL_types_22 : decode cL_types 22 = .ok (.ifCond .eq 10, 3) := by decide +kernel
theorem dL_types_25 : decode cL_types 25 = .ok (.aload_n 0, 1) := by decide +kernel
theorem dL_types_26 : decode cL_types 26 = .ok (.iload 4, 2) := by decide +kernel
theorem dL_types_28 : decode cL_types 28 = .ok (.invokevirtual 81, 3) := by decide +kernel
theorem dL_types_31 : decode cL_types 31 = .ok (.pop, 1) := by decide +kernel
theorem dL_types_32 : decode cL_types 32 = .ok (.iinc 3 (-1), 3) := by decide +kernel
theorem dL_types_35 : decode cL_types 35 = .ok (.goto (-32), 3) := by decide +kernel
theorem dL_types_38 : decode cL_types 38 = .ok (.return_, 1) := by decide +kernel
theorem dL_faultOf_0 : decode cL_faultOf 0 = .ok (.aload_n 0, 1) := by decide +kernel
theorem dL_faultOf_1 : decode cL_faultOf 1 = .ok (.invokevirtual 201, 3) := by decide +kernel
theorem dL_faultOf_4 : decode cL_faultOf 4 = .ok (.pop, 1) := by decide +kernel
theorem dL_faultOf_5 : decode cL_faultOf 5 = .ok (.aload_n 0, 1) := by decide +kernel
theorem dL_faultOf_6 : decode cL_faultOf 6 = .ok (.lload_n 1, 1) := by decide +kernel
theorem dL_faultOf_7 : decode cL_faultOf 7 = .ok (.invokestatic 206, 3) := by decide +kernel
theorem dL_faultOf_10 : decode cL_faultOf 10 = .ok (.aload_n 0, 1) := by decide +kernel
theorem dL_faultOf_11 : decode cL_faultOf 11 = .ok (.lload_n 3, 1) := by decide +kernel
theorem dL_faultOf_12 : decode cL_faultOf 12 = .ok (.invokestatic 206, 3) := by decide +kernel
theorem dL_faultOf_15 : decode cL_faultOf 15 = .ok (.aload_n 0, 1) := by decide +kernel
theorem dL_faultOf_16 : decode cL_faultOf 16 = .ok (.lload 5, 2) := by decide +kernel
theorem dL_faultOf_18 : decode cL_faultOf 18 = .ok (.invokestatic 206, 3) := by decide +kernel
theorem dL_faultOf_21 : decode cL_faultOf 21 = .ok (.aload_n 0, 1) := by decide +kernel
theorem dL_faultOf_22 : decode cL_faultOf 22 = .ok (.lload 7, 2) := by decide +kernel
theorem dL_faultOf_24 : decode cL_faultOf 24 = .ok (.invokestatic 206, 3) := by decide +kernel
theorem dL_faultOf_27 : decode cL_faultOf 27 = .ok (.aload_n 0, 1) := by decide +kernel
theorem dL_faultOf_28 : decode cL_faultOf 28 = .ok (.lload 9, 2) := by decide +kernel
theorem dL_faultOf_30 : decode cL_faultOf 30 = .ok (.invokestatic 206, 3) := by decide +kernel
theorem dL_faultOf_33 : decode cL_faultOf 33 = .ok (.aload_n 0, 1) := by decide +kernel
theorem dL_faultOf_34 : decode cL_faultOf 34 = .ok (.invokevirtual 210, 3) := by decide +kernel
theorem dL_faultOf_37 : decode cL_faultOf 37 = .ok (.ireturn, 1) := by decide +kernel
theorem dL_texts_0 : decode cL_texts 0 = .ok (.aload_n 0, 1) := by decide +kernel
theorem dL_texts_1 : decode cL_texts 1 = .ok (.lconst 0, 1) := by decide +kernel
theorem dL_texts_2 : decode cL_texts 2 = .ok (.lconst 0, 1) := by decide +kernel
theorem dL_texts_3 : decode cL_texts 3 = .ok (.lconst 0, 1) := by decide +kernel
theorem dL_texts_4 : decode cL_texts 4 = .ok (.lconst 0, 1) := by decide +kernel
theorem dL_texts_5 : decode cL_texts 5 = .ok (.lconst 0, 1) := by decide +kernel
theorem dL_texts_6 : decode cL_texts 6 = .ok (.invokestatic 213, 3) := by decide +kernel
theorem dL_texts_9 : decode cL_texts 9 = .ok (.ifCond .ne 47, 3) := by decide +kernel
theorem dL_texts_12 : decode cL_texts 12 = .ok (.aload_n 0, 1) := by decide +kernel
theorem dL_texts_13 : decode cL_texts 13 = .ok (.ldc2_w 217, 3) := by decide +kernel
theorem dL_texts_16 : decode cL_texts 16 = .ok (.lconst 0, 1) := by decide +kernel
theorem dL_texts_17 : decode cL_texts 17 = .ok (.lconst 0, 1) := by decide +kernel
theorem dL_texts_18 : decode cL_texts 18 = .ok (.lconst 0, 1) := by decide +kernel
theorem dL_texts_19 : decode cL_texts 19 = .ok (.lconst 0, 1) := by decide +kernel
theorem dL_texts_20 : decode cL_texts 20 = .ok (.invokestatic 213, 3) := by decide +kernel
theorem dL_texts_23 : decode cL_texts 23 = .ok (.ifCond .ne 33, 3) := by decide +kernel
theorem dL_texts_26 : decode cL_texts 26 = .ok (.aload_n 0, 1) := by decide +kernel
theorem dL_texts_27 : decode cL_texts 27 = .ok (.ldc2_w 219, 3) := by decide +kernel
theorem dL_texts_30 : decode cL_texts 30 = .ok (.lconst 0, 1) := by decide +kernel
theorem dL_texts_31 : decode cL_texts 31 = .ok (.lconst 0, 1) := by decide +kernel
theorem dL_texts_32 : decode cL_texts 32 = .ok (.lconst 0, 1) := by decide +kernel
theorem dL_texts_33 : decode cL_texts 33 = .ok (.lconst 0, 1) := by decide +kernel
theorem dL_texts_34 : decode cL_texts 34 = .ok (.invokestatic 213, 3) := by decide +kernel
theorem dL_texts_37 : decode cL_texts 37 = .ok (.iconst 3, 1) := by decide +kernel
theorem dL_texts_38 : decode cL_texts 38 = .ok (.if_icmp .ne 18, 3) := by decide +kernel
theorem dL_texts_41 : decode cL_texts 41 = .ok (.aload_n 0, 1) := by decide +kernel
theorem dL_texts_42 : decode cL_texts 42 = .ok (.ldc2_w 221, 3) := by decide +kernel
theorem dL_texts_45 : decode cL_texts 45 = .ok (.lconst 0, 1) := by decide +kernel
theorem dL_texts_46 : decode cL_texts 46 = .ok (.lconst 0, 1) := by decide +kernel
theorem dL_texts_47 : decode cL_texts 47 = .ok (.lconst 0, 1) := by decide +kernel
theorem dL_texts_48 : decode cL_texts 48 = .ok (.lconst 0, 1) := by decide +kernel
theorem dL_texts_49 : decode cL_texts 49 = .ok (.invokestatic 213, 3) := by decide +kernel
theorem dL_texts_52 : decode cL_texts 52 = .ok (.iconst 4, 1) := by decide +kernel
theorem dL_texts_53 : decode cL_texts 53 = .ok (.if_icmp .eq 5, 3) := by decide +kernel
theorem dL_texts_56 : decode cL_texts 56 = .ok (.iconst 0, 1) := by decide +kernel
theorem dL_texts_57 : decode cL_texts 57 = .ok (.ireturn, 1) := by decide +kernel
theorem dL_texts_58 : decode cL_texts 58 = .ok (.aload_n 0, 1) := by decide +kernel
theorem dL_texts_59 : decode cL_texts 59 = .ok (.ldc2_w 223, 3) := by decide +kernel
theorem dL_texts_62 : decode cL_texts 62 = .ok (.ldc2_w 225, 3) := by decide +kernel
theorem dL_texts_65 : decode cL_texts 65 = .ok (.lconst 0, 1) := by decide +kernel
theorem dL_texts_66 : decode cL_texts 66 = .ok (.lconst 0, 1) := by decide +kernel
theorem dL_texts_67 : decode cL_texts 67 = .ok (.lconst 0, 1) := by decide +kernel
theorem dL_texts_68 : decode cL_texts 68 = .ok (.invokestatic 213, 3) := by decide +kernel
theorem dL_texts_71 : decode cL_texts 71 = .ok (.sipush (-1000), 3) := by decide +kernel
theorem dL_texts_74 : decode cL_texts 74 = .ok (.if_icmp .ne 57, 3) := by decide +kernel
theorem dL_texts_77 : decode cL_texts 77 = .ok (.aload_n 0, 1) := by decide +kernel
theorem dL_texts_78 : decode cL_texts 78 = .ok (.ldc2_w 223, 3) := by decide +kernel
theorem dL_texts_81 : decode cL_texts 81 = .ok (.ldc2_w 227, 3) := by decide +kernel
theorem dL_texts_84 : decode cL_texts 84 = .ok (.lconst 0, 1) := by decide +kernel
theorem dL_texts_85 : decode cL_texts 85 = .ok (.lconst 0, 1) := by decide +kernel
theorem dL_texts_86 : decode cL_texts 86 = .ok (.lconst 0, 1) := by decide +kernel
theorem dL_texts_87 : decode cL_texts 87 = .ok (.invokestatic 213, 3) := by decide +kernel
theorem dL_texts_90 : decode cL_texts 90 = .ok (.bipush 10, 2) := by decide +kernel
theorem dL_texts_92 : decode cL_texts 92 = .ok (.if_icmp .ne 39, 3) := by decide +kernel
theorem dL_texts_95 : decode cL_texts 95 = .ok (.aload_n 0, 1) := by decide +kernel
theorem dL_texts_96 : decode cL_texts 96 = .ok (.ldc2_w 229, 3) := by decide +kernel
theorem dL_texts_99 : decode cL_texts 99 = .ok (.ldc2_w 231, 3) := by decide +kernel
theorem dL_texts_102 : decode cL_texts 102 = .ok (.lconst 0, 1) := by decide +kernel
theorem dL_texts_103 : decode cL_texts 103 = .ok (.lconst 0, 1) := by decide +kernel
theorem dL_texts_104 : decode cL_texts 104 = .ok (.lconst 0, 1) := by decide +kernel
theorem dL_texts_105 : decode cL_texts 105 = .ok (.invokestatic 213, 3) := by decide +kernel
theorem dL_texts_108 : decode cL_texts 108 = .ok (.iconst 4, 1) := by decide +kernel
theorem dL_texts_109 : decode cL_texts 109 = .ok (.if_icmp .ne 22, 3) := by decide +kernel
theorem dL_texts_112 : decode cL_texts 112 = .ok (.aload_n 0, 1) := by decide +kernel
theorem dL_texts_113 : decode cL_texts 113 = .ok (.ldc2_w 233, 3) := by decide +kernel
theorem dL_texts_116 : decode cL_texts 116 = .ok (.ldc2_w 235, 3) := by decide +kernel
theorem dL_texts_119 : decode cL_texts 119 = .ok (.lconst 0, 1) := by decide +kernel
theorem dL_texts_120 : decode cL_texts 120 = .ok (.lconst 0, 1) := by decide +kernel
theorem dL_texts_121 : decode cL_texts 121 = .ok (.lconst 0, 1) := by decide +kernel
theorem dL_texts_122 : decode cL_texts 122 = .ok (.invokestatic 213, 3) := by decide +kernel
theorem dL_texts_125 : decode cL_texts 125 = .ok (.sipush (-1000), 3) := by decide +kernel
theorem dL_texts_128 : decode cL_texts 128 = .ok (.if_icmp .eq 5, 3) := by decide +kernel
theorem dL_texts_131 : decode cL_texts 131 = .ok (.iconst 0, 1) := by decide +kernel
theorem dL_texts_132 : decode cL_texts 132 = .ok (.ireturn, 1) := by decide +kernel
theorem dL_texts_133 : decode cL_texts 133 = .ok (.aload_n 0, 1) := by decide +kernel
theorem dL_texts_134 : decode cL_texts 134 = .ok (.ldc2_w 223, 3) := by decide +kernel
theorem dL_texts_137 : decode cL_texts 137 = .ok (.ldc2_w 237, 3) := by decide +kernel
theorem dL_texts_140 : decode cL_texts 140 = .ok (.ldc2_w 239, 3) := by decide +kernel
theorem dL_texts_143 : decode cL_texts 143 = .ok (.lconst 0, 1) := by decide +kernel
theorem dL_texts_144 : decode cL_texts 144 = .ok (.lconst 0, 1) := by decide +kernel
theorem dL_texts_145 : decode cL_texts 145 = .ok (.invokestatic 213, 3) := by decide +kernel
theorem dL_texts_148 : decode cL_texts 148 = .ok (.bipush 13, 2) := by decide +kernel
theorem dL_texts_150 : decode cL_texts 150 = .ok (.if_icmp .ne 61, 3) := by decide +kernel
theorem dL_texts_153 : decode cL_texts 153 = .ok (.aload_n 0, 1) := by decide +kernel
theorem dL_texts_154 : decode cL_texts 154 = .ok (.ldc2_w 223, 3) := by decide +kernel
theorem dL_texts_157 : decode cL_texts 157 = .ok (.ldc2_w 241, 3) := by decide +kernel
theorem dL_texts_160 : decode cL_texts 160 = .ok (.lconst 0, 1) := by decide +kernel
theorem dL_texts_161 : decode cL_texts 161 = .ok (.lconst 0, 1) := by decide +kernel
theorem dL_texts_162 : decode cL_texts 162 = .ok (.lconst 0, 1) := by decide +kernel
theorem dL_texts_163 : decode cL_texts 163 = .ok (.invokestatic 213, 3) := by decide +kernel
theorem dL_texts_166 : decode cL_texts 166 = .ok (.bipush 13, 2) := by decide +kernel
theorem dL_texts_168 : decode cL_texts 168 = .ok (.if_icmp .ne 43, 3) := by decide +kernel
theorem dL_texts_171 : decode cL_texts 171 = .ok (.aload_n 0, 1) := by decide +kernel
theorem dL_texts_172 : decode cL_texts 172 = .ok (.ldc2_w 243, 3) := by decide +kernel
theorem dL_texts_175 : decode cL_texts 175 = .ok (.ldc2_w 245, 3) := by decide +kernel
theorem dL_texts_178 : decode cL_texts 178 = .ok (.ldc2_w 231, 3) := by decide +kernel
theorem dL_texts_181 : decode cL_texts 181 = .ok (.lconst 0, 1) := by decide +kernel
theorem dL_texts_182 : decode cL_texts 182 = .ok (.lconst 0, 1) := by decide +kernel
theorem dL_texts_183 : decode cL_texts 183 = .ok (.invokestatic 213, 3) := by decide +kernel
theorem dL_texts_186 : decode cL_texts 186 = .ok (.bipush 10, 2) := by decide +kernel
theorem dL_texts_188 : decode cL_texts 188 = .ok (.if_icmp .ne 23, 3) := by decide +kernel
theorem dL_texts_191 : decode cL_texts 191 = .ok (.aload_n 0, 1) := by decide +kernel
theorem dL_texts_192 : decode cL_texts 192 = .ok (.ldc2_w 243, 3) := by decide +kernel
theorem dL_texts_195 : decode cL_texts 195 = .ok (.ldc2_w 247, 3) := by decide +kernel
theorem dL_texts_198 : decode cL_texts 198 = .ok (.ldc2_w 249, 3) := by decide +kernel
theorem dL_texts_201 : decode cL_texts 201 = .ok (.lconst 0, 1) := by decide +kernel
theorem dL_texts_202 : decode cL_texts 202 = .ok (.lconst 0, 1) := by decide +kernel
theorem dL_texts_203 : decode cL_texts 203 = .ok (.invokestatic 213, 3) := by decide +kernel
theorem dL_texts_206 : decode cL_texts 206 = .ok (.bipush 12, 2) := by decide +kernel
theorem dL_texts_208 : decode cL_texts 208 = .ok (.if_icmp .eq 5, 3) := by decide +kernel
theorem dL_texts_211 : decode cL_texts 211 = .ok (.iconst 0, 1) := by decide +kernel
theorem dL_texts_212 : decode cL_texts 212 = .ok (.ireturn, 1) := by decide +kernel
theorem dL_texts_213 : decode cL_texts 213 = .ok (.aload_n 0, 1) := by decide +kernel
theorem dL_texts_214 : decode cL_texts 214 = .ok (.ldc2_w 243, 3) := by decide +kernel
theorem dL_texts_217 : decode cL_texts 217 = .ok (.ldc2_w 251, 3) := by decide +kernel
theorem dL_texts_220 : decode cL_texts 220 = .ok (.ldc2_w 231, 3) := by decide +kernel
theorem dL_texts_223 : decode cL_texts 223 = .ok (.lconst 0, 1) := by decide +kernel
theorem dL_texts_224 : decode cL_texts 224 = .ok (.lconst 0, 1) := by decide +kernel
theorem dL_texts_225 : decode cL_texts 225 = .ok (.invokestatic 213, 3) := by decide +kernel
theorem dL_texts_228 : decode cL_texts 228 = .ok (.bipush 10, 2) := by decide +kernel
theorem dL_texts_230 : decode cL_texts 230 = .ok (.if_icmp .ne 67, 3) := by decide +kernel
theorem dL_texts_233 : decode cL_texts 233 = .ok (.aload_n 0, 1) := by decide +kernel
theorem dL_texts_234 : decode cL_texts 234 = .ok (.ldc2_w 253, 3) := by decide +kernel
theorem dL_texts_237 : decode cL_texts 237 = .ok (.ldc2_w 255, 3) := by decide +kernel
theorem dL_texts_240 : decode cL_texts 240 = .ok (.ldc2_w 239, 3) := by decide +kernel
theorem dL_texts_243 : decode cL_texts 243 = .ok (.lconst 0, 1) := by decide +kernel
theorem dL_texts_244 : decode cL_texts 244 = .ok (.lconst 0, 1) := by decide +kernel
theorem dL_texts_245 : decode cL_texts 245 = .ok (.invokestatic 213, 3) := by decide +kernel
theorem dL_texts_248 : decode cL_texts 248 = .ok (.bipush 13, 2) := by decide +kernel
theorem dL_texts_250 : decode cL_texts 250 = .ok (.if_icmp .ne 47, 3) := by decide +kernel
theorem dL_texts_253 : decode cL_texts 253 = .ok (.aload_n 0, 1) := by decide +kernel
theorem dL_texts_254 : decode cL_texts 254 = .ok (.ldc2_w 253, 3) := by decide +kernel
theorem dL_texts_257 : decode cL_texts 257 = .ok (.ldc2_w 257, 3) := by decide +kernel
theorem dL_texts_260 : decode cL_texts 260 = .ok (.ldc2_w 259, 3) := by decide +kernel
theorem dL_texts_263 : decode cL_texts 263 = .ok (.lconst 0, 1) := by decide +kernel
theorem dL_texts_264 : decode cL_texts 264 = .ok (.lconst 0, 1) := by decide +kernel
theorem dL_texts_265 : decode cL_texts 265 = .ok (.invokestatic 213, 3) := by decide +kernel
theorem dL_texts_268 : decode cL_texts 268 = .ok (.bipush 11, 2) := by decide +kernel
theorem dL_texts_270 : decode cL_texts 270 = .ok (.if_icmp .ne 27, 3) := by decide +kernel
theorem dL_texts_273 : decode cL_texts 273 = .ok (.aload_n 0, 1) := by decide +kernel
theorem dL_texts_274 : decode cL_texts 274 = .ok (.ldc2_w 261, 3) := by decide +kernel
theorem dL_texts_277 : decode cL_texts 277 = .ok (.ldc2_w 263, 3) := by decide +kernel
theorem dL_texts_280 : decode cL_texts 280 = .ok (.ldc2_w 265, 3) := by decide +kernel
theorem dL_texts_283 : decode cL_texts 283 = .ok (.ldc2_w 267, 3) := by decide +kernel
theorem dL_texts_286 : decode cL_texts 286 = .ok (.ldc2_w 269, 3) := by decide +kernel
theorem dL_texts_289 : decode cL_texts 289 = .ok (.invokestatic 213, 3) := by decide +kernel
theorem dL_texts_292 : decode cL_texts 292 = .ok (.bipush 24, 2) := by decide +kernel
theorem dL_texts_294 : decode cL_texts 294 = .ok (.if_icmp .eq 5, 3) := by decide +kernel
theorem dL_texts_297 : decode cL_texts 297 = .ok (.iconst 0, 1) := by decide +kernel
theorem dL_texts_298 : decode cL_texts 298 = .ok (.ireturn, 1) := by decide +kernel
theorem dL_texts_299 : decode cL_texts 299 = .ok (.aload_n 0, 1) := by decide +kernel
theorem dL_texts_300 : decode cL_texts 300 = .ok (.ldc2_w 261, 3) := by decide +kernel
theorem dL_texts_303 : decode cL_texts 303 = .ok (.ldc2_w 271, 3) := by decide +kernel
theorem dL_texts_306 : decode cL_texts 306 = .ok (.ldc2_w 265, 3) := by decide +kernel
theorem dL_texts_309 : decode cL_texts 309 = .ok (.ldc2_w 267, 3) := by decide +kernel
theorem dL_texts_312 : decode cL_texts 312 = .ok (.ldc2_w 269, 3) := by decide +kernel
theorem dL_texts_315 : decode cL_texts 315 = .ok (.invokestatic 213, 3) := by decide +kernel
theorem dL_texts_318 : decode cL_texts 318 = .ok (.bipush 30, 2) := by decide +kernel
theorem dL_texts_320 : decode cL_texts 320 = .ok (.if_icmp .ne 67, 3) := by decide +kernel
theorem dL_texts_323 : decode cL_texts 323 = .ok (.aload_n 0, 1) := by decide +kernel
theorem dL_texts_324 : decode cL_texts 324 = .ok (.ldc2_w 261, 3) := by decide +kernel
theorem dL_texts_327 : decode cL_texts 327 = .ok (.ldc2_w 273, 3) := by decide +kernel
theorem dL_texts_330 : decode cL_texts 330 = .ok (.ldc2_w 225, 3) := by decide +kernel
theorem dL_texts_333 : decode cL_texts 333 = .ok (.lconst 0, 1) := by decide +kernel
theorem dL_texts_334 : decode cL_texts 334 = .ok (.lconst 0, 1) := by decide +kernel
theorem dL_texts_335 : decode cL_texts 335 = .ok (.invokestatic 213, 3) := by decide +kernel
theorem dL_texts_338 : decode cL_texts 338 = .ok (.bipush 14, 2) := by decide +kernel
theorem dL_texts_340 : decode cL_texts 340 = .ok (.if_icmp .ne 47, 3) := by decide +kernel
theorem dL_texts_343 : decode cL_texts 343 = .ok (.aload_n 0, 1) := by decide +kernel
theorem dL_texts_344 : decode cL_texts 344 = .ok (.ldc2_w 261, 3) := by decide +kernel
theorem dL_texts_347 : decode cL_texts 347 = .ok (.ldc2_w 275, 3) := by decide +kernel
theorem dL_texts_350 : decode cL_texts 350 = .ok (.ldc2_w 277, 3) := by decide +kernel
theorem dL_texts_353 : decode cL_texts 353 = .ok (.ldc2_w 259, 3) := by decide +kernel
theorem dL_texts_356 : decode cL_texts 356 = .ok (.lconst 0, 1) := by decide +kernel
theorem dL_texts_357 : decode cL_texts 357 = .ok (.invokestatic 213, 3) := by decide +kernel
theorem dL_texts_360 : decode cL_texts 360 = .ok (.bipush 16, 2) := by decide +kernel
theorem dL_texts_362 : decode cL_texts 362 = .ok (.if_icmp .ne 25, 3) := by decide +kernel
theorem dL_texts_365 : decode cL_texts 365 = .ok (.aload_n 0, 1) := by decide +kernel
theorem dL_texts_366 : decode cL_texts 366 = .ok (.ldc2_w 261, 3) := by decide +kernel
theorem dL_texts_369 : decode cL_texts 369 = .ok (.ldc2_w 279, 3) := by decide +kernel
theorem dL_texts_372 : decode cL_texts 372 = .ok (.ldc2_w 281, 3) := by decide +kernel
theorem dL_texts_375 : decode cL_texts 375 = .ok (.ldc2_w 283, 3) := by decide +kernel
theorem dL_texts_378 : decode cL_texts 378 = .ok (.lconst 0, 1) := by decide +kernel
theorem dL_texts_379 : decode cL_texts 379 = .ok (.invokestatic 213, 3) := by decide +kernel
theorem dL_texts_382 : decode cL_texts 382 = .ok (.bipush 14, 2) := by decide +kernel
theorem dL_texts_384 : decode cL_texts 384 = .ok (.if_icmp .eq 5, 3) := by decide +kernel
theorem dL_texts_387 : decode cL_texts 387 = .ok (.iconst 0, 1) := by decide +kernel
theorem dL_texts_388 : decode cL_texts 388 = .ok (.ireturn, 1) := by decide +kernel
theorem dL_texts_389 : decode cL_texts 389 = .ok (.aload_n 0, 1) := by decide +kernel
theorem dL_texts_390 : decode cL_texts 390 = .ok (.ldc2_w 261, 3) := by decide +kernel
theorem dL_texts_393 : decode cL_texts 393 = .ok (.ldc2_w 275, 3) := by decide +kernel
theorem dL_texts_396 : decode cL_texts 396 = .ok (.ldc2_w 285, 3) := by decide +kernel
theorem dL_texts_399 : decode cL_texts 399 = .ok (.ldc2_w 283, 3) := by decide +kernel
theorem dL_texts_402 : decode cL_texts 402 = .ok (.lconst 0, 1) := by decide +kernel
theorem dL_texts_403 : decode cL_texts 403 = .ok (.invokestatic 213, 3) := by decide +kernel
theorem dL_texts_406 : decode cL_texts 406 = .ok (.bipush 16, 2) := by decide +kernel
theorem dL_texts_408 : decode cL_texts 408 = .ok (.if_icmp .ne 64, 3) := by decide +kernel
theorem dL_texts_411 : decode cL_texts 411 = .ok (.aload_n 0, 1) := by decide +kernel
theorem dL_texts_412 : decode cL_texts 412 = .ok (.ldc2_w 261, 3) := by decide +kernel
theorem dL_texts_415 : decode cL_texts 415 = .ok (.ldc2_w 275, 3) := by decide +kernel
theorem dL_texts_418 : decode cL_texts 418 = .ok (.ldc2_w 287, 3) := by decide +kernel
theorem dL_texts_421 : decode cL_texts 421 = .ok (.ldc2_w 289, 3) := by decide +kernel
theorem dL_texts_424 : decode cL_texts 424 = .ok (.lconst 0, 1) := by decide +kernel
theorem dL_texts_425 : decode cL_texts 425 = .ok (.invokestatic 213, 3) := by decide +kernel
theorem dL_texts_428 : decode cL_texts 428 = .ok (.bipush 18, 2) := by decide +kernel
theorem dL_texts_430 : decode cL_texts 430 = .ok (.if_icmp .ne 42, 3) := by decide +kernel
theorem dL_texts_433 : decode cL_texts 433 = .ok (.aload_n 0, 1) := by decide +kernel
theorem dL_texts_434 : decode cL_texts 434 = .ok (.ldc2_w 291, 3) := by decide +kernel
theorem dL_texts_437 : decode cL_texts 437 = .ok (.ldc2_w 293, 3) := by decide +kernel
theorem dL_texts_440 : decode cL_texts 440 = .ok (.lconst 0, 1) := by decide +kernel
theorem dL_texts_441 : decode cL_texts 441 = .ok (.lconst 0, 1) := by decide +kernel
theorem dL_texts_442 : decode cL_texts 442 = .ok (.lconst 0, 1) := by decide +kernel
theorem dL_texts_443 : decode cL_texts 443 = .ok (.invokestatic 213, 3) := by decide +kernel
theorem dL_texts_446 : decode cL_texts 446 = .ok (.bipush 11, 2) := by decide +kernel
theorem dL_texts_448 : decode cL_texts 448 = .ok (.if_icmp .ne 24, 3) := by decide +kernel
theorem dL_texts_451 : decode cL_texts 451 = .ok (.aload_n 0, 1) := by decide +kernel
theorem dL_texts_452 : decode cL_texts 452 = .ok (.ldc2_w 295, 3) := by decide +kernel
theorem dL_texts_455 : decode cL_texts 455 = .ok (.ldc2_w 297, 3) := by decide +kernel
theorem dL_texts_458 : decode cL_texts 458 = .ok (.ldc2_w 299, 3) := by decide +kernel
theorem dL_texts_461 : decode cL_texts 461 = .ok (.lconst 0, 1) := by decide +kernel
theorem dL_texts_462 : decode cL_texts 462 = .ok (.lconst 0, 1) := by decide +kernel
theorem dL_texts_463 : decode cL_texts 463 = .ok (.invokestatic 213, 3) := by decide +kernel
theorem dL_texts_466 : decode cL_texts 466 = .ok (.sipush (-1000), 3) := by decide +kernel
theorem dL_texts_469 : decode cL_texts 469 = .ok (.if_icmp .eq 5, 3) := by decide +kernel
theorem dL_texts_472 : decode cL_texts 472 = .ok (.iconst 0, 1) := by decide +kernel
theorem dL_texts_473 : decode cL_texts 473 = .ok (.ireturn, 1) := by decide +kernel
theorem dL_texts_474 : decode cL_texts 474 = .ok (.aload_n 0, 1) := by decide +kernel
theorem dL_texts_475 : decode cL_texts 475 = .ok (.ldc2_w 291, 3) := by decide +kernel
theorem dL_texts_478 : decode cL_texts 478 = .ok (.ldc2_w 301, 3) := by decide +kernel
theorem dL_texts_481 : decode cL_texts 481 = .ok (.ldc2_w 249, 3) := by decide +kernel
theorem dL_texts_484 : decode cL_texts 484 = .ok (.lconst 0, 1) := by decide +kernel
theorem dL_texts_485 : decode cL_texts 485 = .ok (.lconst 0, 1) := by decide +kernel
theorem dL_texts_486 : decode cL_texts 486 = .ok (.invokestatic 213, 3) := by decide +kernel
theorem dL_texts_489 : decode cL_texts 489 = .ok (.bipush 13, 2) := by decide +kernel
theorem dL_texts_491 : decode cL_texts 491 = .ok (.if_icmp .ne 67, 3) := by decide +kernel
theorem dL_texts_494 : decode cL_texts 494 = .ok (.aload_n 0, 1) := by decide +kernel
theorem dL_texts_495 : decode cL_texts 495 = .ok (.ldc2_w 261, 3) := by decide +kernel
theorem dL_texts_498 : decode cL_texts 498 = .ok (.ldc2_w 271, 3) := by decide +kernel
theorem dL_texts_501 : decode cL_texts 501 = .ok (.ldc2_w 265, 3) := by decide +kernel
theorem dL_texts_504 : decode cL_texts 504 = .ok (.ldc2_w 303, 3) := by decide +kernel
theorem dL_texts_507 : decode cL_texts 507 = .ok (.lconst 0, 1) := by decide +kernel
theorem dL_texts_508 : decode cL_texts 508 = .ok (.invokestatic 213, 3) := by decide +kernel
theorem dL_texts_511 : decode cL_texts 511 = .ok (.bipush 24, 2) := by decide +kernel
theorem dL_texts_513 : decode cL_texts 513 = .ok (.if_icmp .ne 45, 3) := by decide +kernel
theorem dL_texts_516 : decode cL_texts 516 = .ok (.aload_n 0, 1) := by decide +kernel
theorem dL_texts_517 : decode cL_texts 517 = .ok (.ldc2_w 261, 3) := by decide +kernel
theorem dL_texts_520 : decode cL_texts 520 = .ok (.ldc2_w 305, 3) := by decide +kernel
theorem dL_texts_523 : decode cL_texts 523 = .ok (.ldc2_w 265, 3) := by decide +kernel
theorem dL_texts_526 : decode cL_texts 526 = .ok (.ldc2_w 259, 3) := by decide +kernel
theorem dL_texts_529 : decode cL_texts 529 = .ok (.lconst 0, 1) := by decide +kernel
theorem dL_texts_530 : decode cL_texts 530 = .ok (.invokestatic 213, 3) := by decide +kernel
theorem dL_texts_533 : decode cL_texts 533 = .ok (.bipush 12, 2) := by decide +kernel
theorem dL_texts_535 : decode cL_texts 535 = .ok (.if_icmp .ne 23, 3) := by decide +kernel
theorem dL_texts_538 : decode cL_texts 538 = .ok (.aload_n 0, 1) := by decide +kernel
theorem dL_texts_539 : decode cL_texts 539 = .ok (.ldc2_w 233, 3) := by decide +kernel
theorem dL_texts_542 : decode cL_texts 542 = .ok (.ldc2_w 307, 3) := by decide +kernel
theorem dL_texts_545 : decode cL_texts 545 = .ok (.ldc2_w 259, 3) := by decide +kernel
theorem dL_texts_548 : decode cL_texts 548 = .ok (.lconst 0, 1) := by decide +kernel
theorem dL_texts_549 : decode cL_texts 549 = .ok (.lconst 0, 1) := by decide +kernel
theorem dL_texts_550 : decode cL_texts 550 = .ok (.invokestatic 213, 3) := by decide +kernel
theorem dL_texts_553 : decode cL_texts 553 = .ok (.bipush 11, 2) := by decide +kernel
theorem dL_texts_555 : decode cL_texts 555 = .ok (.if_icmp .eq 5, 3) := by decide +kernel
theorem dL_texts_558 : decode cL_texts 558 = .ok (.iconst 0, 1) := by decide +kernel
theorem dL_texts_559 : decode cL_texts 559 = .ok (.ireturn, 1) := by decide +kernel
theorem dL_texts_560 : decode cL_texts 560 = .ok (.aload_n 0, 1) := by decide +kernel
theorem dL_texts_561 : decode cL_texts 561 = .ok (.ldc2_w 309, 3) := by decide +kernel
theorem dL_texts_564 : decode cL_texts 564 = .ok (.ldc2_w 225, 3) := by decide +kernel
theorem dL_texts_567 : decode cL_texts 567 = .ok (.lconst 0, 1) := by decide +kernel
theorem dL_texts_568 : decode cL_texts 568 = .ok (.lconst 0, 1) := by decide +kernel
theorem dL_texts_569 : decode cL_texts 569 = .ok (.lconst 0, 1) := by decide +kernel
theorem dL_texts_570 : decode cL_texts 570 = .ok (.invokestatic 213, 3) := by decide +kernel
theorem dL_texts_573 : decode cL_texts 573 = .ok (.iconst 4, 1) := by decide +kernel
theorem dL_texts_574 : decode cL_texts 574 = .ok (.if_icmp .ne 64, 3) := by decide +kernel
theorem dL_texts_577 : decode cL_texts 577 = .ok (.aload_n 0, 1) := by decide +kernel
theorem dL_texts_578 : decode cL_texts 578 = .ok (.ldc2_w 311, 3) := by decide +kernel
theorem dL_texts_581 : decode cL_texts 581 = .ok (.ldc2_w 225, 3) := by decide +kernel
theorem dL_texts_584 : decode cL_texts 584 = .ok (.lconst 0, 1) := by decide +kernel
theorem dL_texts_585 : decode cL_texts 585 = .ok (.lconst 0, 1) := by decide +kernel
theorem dL_texts_586 : decode cL_texts 586 = .ok (.lconst 0, 1) := by decide +kernel
theorem dL_texts_587 : decode cL_texts 587 = .ok (.invokestatic 213, 3) := by decide +kernel
theorem dL_texts_590 : decode cL_texts 590 = .ok (.ifCond .ne 48, 3) := by decide +kernel
theorem dL_texts_593 : decode cL_texts 593 = .ok (.aload_n 0, 1) := by decide +kernel
theorem dL_texts_594 : decode cL_texts 594 = .ok (.ldc2_w 243, 3) := by decide +kernel
theorem dL_texts_597 : decode cL_texts 597 = .ok (.ldc2_w 313, 3) := by decide +kernel
theorem dL_texts_600 : decode cL_texts 600 = .ok (.ldc2_w 315, 3) := by decide +kernel
theorem dL_texts_603 : decode cL_texts 603 = .ok (.ldc2_w 317, 3) := by decide +kernel
theorem dL_texts_606 : decode cL_texts 606 = .ok (.lconst 0, 1) := by decide +kernel
theorem dL_texts_607 : decode cL_texts 607 = .ok (.invokestatic 213, 3) := by decide +kernel
theorem dL_texts_610 : decode cL_texts 610 = .ok (.sipush (-1000), 3) := by decide +kernel
theorem dL_texts_613 : decode cL_texts 613 = .ok (.if_icmp .ne 25, 3) := by decide +kernel
theorem dL_texts_616 : decode cL_texts 616 = .ok (.aload_n 0, 1) := by decide +kernel
theorem dL_texts_617 : decode cL_texts 617 = .ok (.ldc2_w 261, 3) := by decide +kernel
theorem dL_texts_620 : decode cL_texts 620 = .ok (.ldc2_w 275, 3) := by decide +kernel
theorem dL_texts_623 : decode cL_texts 623 = .ok (.ldc2_w 319, 3) := by decide +kernel
theorem dL_texts_626 : decode cL_texts 626 = .ok (.ldc2_w 321, 3) := by decide +kernel
theorem dL_texts_629 : decode cL_texts 629 = .ok (.lconst 0, 1) := by decide +kernel
theorem dL_texts_630 : decode cL_texts 630 = .ok (.invokestatic 213, 3) := by decide +kernel
theorem dL_texts_633 : decode cL_texts 633 = .ok (.bipush 28, 2) := by decide +kernel
theorem dL_texts_635 : decode cL_texts 635 = .ok (.if_icmp .eq 5, 3) := by decide +kernel
theorem dL_texts_638 : decode cL_texts 638 = .ok (.iconst 0, 1) := by decide +kernel
theorem dL_texts_639 : decode cL_texts 639 = .ok (.ireturn, 1) := by decide +kernel
theorem dL_texts_640 : decode cL_texts 640 = .ok (.iconst 1, 1) := by decide +kernel
theorem dL_texts_641 : decode cL_texts 641 = .ok (.ireturn, 1) := by decide +kernel
theorem dL_known_0 : decode cL_known 0 = .ok (.aload_n 0, 1) := by decide +kernel
theorem dL_known_1 : decode cL_known 1 = .ok (.invokevirtual 9, 3) := by decide +kernel
theorem dL_known_4 : decode cL_known 4 = .ok (.ifCond .ne 111, 3) := by decide +kernel
theorem dL_known_7 : decode cL_known 7 = .ok (.aload_n 0, 1) := by decide +kernel
theorem dL_known_8 : decode cL_known 8 = .ok (.iconst 0, 1) := by decide +kernel
theorem dL_known_9 : decode cL_known 9 = .ok (.iconst 0, 1) := by decide +kernel
theorem dL_known_10 : decode cL_known 10 = .ok (.iconst 1, 1) := by decide +kernel
theorem dL_known_11 : decode cL_known 11 = .ok (.invokevirtual 23, 3) := by decide +kernel
theorem dL_known_14 : decode cL_known 14 = .ok (.ifCond .ne 101, 3) := by decide +kernel
theorem dL_known_17 : decode cL_known 17 = .ok (.aload_n 0, 1) := by decide +kernel
theorem dL_known_18 : decode cL_known 18 = .ok (.iconst 0, 1) := by decide +kernel
theorem dL_known_19 : decode cL_known 19 = .ok (.iconst 0, 1) := by decide +kernel
theorem dL_known_20 : decode cL_known 20 = .ok (.bipush 31, 2) := by decide +kernel
theorem dL_known_22 : decode cL_known 22 = .ok (.iconst 0, 1) := by decide +kernel
theorem dL_known_23 : decode cL_known 23 = .ok (.iconst 4, 1) := by decide +kernel
theorem dL_known_24 : decode cL_known 24 = .ok (.iconst 0, 1) := by decide +kernel
theorem dL_known_25 : decode cL_known 25 = .ok (.invokevirtual 29, 3) := by decide +kernel
theorem dL_known_28 : decode cL_known 28 = .ok (.iconst 1, 1) := by decide +kernel
theorem dL_known_29 : decode cL_known 29 = .ok (.if_icmp .ne 86, 3) := by decide +kernel
theorem dL_known_32 : decode cL_known 32 = .ok (.aload_n 0, 1) := by decide +kernel
theorem dL_known_33 : decode cL_known 33 = .ok (.iconst 0, 1) := by decide +kernel
theorem dL_known_34 : decode cL_known 34 = .ok (.iconst 0, 1) := by decide +kernel
theorem dL_known_35 : decode cL_known 35 = .ok (.bipush 31, 2) := by decide +kernel
theorem dL_known_37 : decode cL_known 37 = .ok (.iconst 3, 1) := by decide +kernel
theorem dL_known_38 : decode cL_known 38 = .ok (.iconst 4, 1) := by decide +kernel
theorem dL_known_39 : decode cL_known 39 = .ok (.iconst 1, 1) := by decide +kernel
theorem dL_known_40 : decode cL_known 40 = .ok (.invokevirtual 29, 3) := by decide +kernel
theorem dL_known_43 : decode cL_known 43 = .ok (.iconst 2, 1) := by decide +kernel
theorem dL_known_44 : decode cL_known 44 = .ok (.if_icmp .ne 71, 3) := by decide +kernel
theorem dL_known_47 : decode cL_known 47 = .ok (.aload_n 0, 1) := by decide +kernel
theorem dL_known_48 : decode cL_known 48 = .ok (.iconst 0, 1) := by decide +kernel
theorem dL_known_49 : decode cL_known 49 = .ok (.iconst 0, 1) := by decide +kernel
theorem dL_known_50 : decode cL_known 50 = .ok (.bipush 31, 2) := by decide +kernel
theorem dL_known_52 : decode cL_known 52 = .ok (.iconst 0, 1) := by decide +kernel
theorem dL_known_53 : decode cL_known 53 = .ok (.iconst 4, 1) := by decide +kernel
theorem dL_known_54 : decode cL_known 54 = .ok (.iconst 0, 1) := by decide +kernel
theorem dL_known_55 : decode cL_known 55 = .ok (.invokevirtual 29, 3) := by decide +kernel
theorem dL_known_58 : decode cL_known 58 = .ok (.iconst 3, 1) := by decide +kernel
theorem dL_known_59 : decode cL_known 59 = .ok (.if_icmp .ne 56, 3) := by decide +kernel
theorem dL_known_62 : decode cL_known 62 = .ok (.aload_n 0, 1) := by decide +kernel
theorem dL_known_63 : decode cL_known 63 = .ok (.iconst 0, 1) := by decide +kernel
theorem dL_known_64 : decode cL_known 64 = .ok (.iconst 0, 1) := by decide +kernel
theorem dL_known_65 : decode cL_known 65 = .ok (.bipush 31, 2) := by decide +kernel
theorem dL_known_67 : decode cL_known 67 = .ok (.iconst 0, 1) := by decide +kernel
theorem dL_known_68 : decode cL_known 68 = .ok (.iconst 5, 1) := by decide +kernel
theorem dL_known_69 : decode cL_known 69 = .ok (.iconst 1, 1) := by decide +kernel
theorem dL_known_70 : decode cL_known 70 = .ok (.invokevirtual 29, 3) := by decide +kernel
theorem dL_known_73 : decode cL_known 73 = .ok (.iconst 4, 1) := by decide +kernel
theorem dL_known_74 : decode cL_known 74 = .ok (.if_icmp .ne 41, 3) := by decide +kernel
theorem dL_known_77 : decode cL_known 77 = .ok (.aload_n 0, 1) := by decide +kernel
theorem dL_known_78 : decode cL_known 78 = .ok (.invokevirtual 9, 3) := by decide +kernel
theorem dL_known_81 : decode cL_known 81 = .ok (.iconst 1, 1) := by decide +kernel
theorem dL_known_82 : decode cL_known 82 = .ok (.if_icmp .ne 33, 3) := by decide +kernel
theorem dL_known_85 : decode cL_known 85 = .ok (.aload_n 0, 1) := by decide +kernel
theorem dL_known_86 : decode cL_known 86 = .ok (.iconst 1, 1) := by decide +kernel
theorem dL_known_87 : decode cL_known 87 = .ok (.iconst 0, 1) := by decide +kernel
theorem dL_known_88 : decode cL_known 88 = .ok (.bipush 31, 2) := by decide +kernel
theorem dL_known_90 : decode cL_known 90 = .ok (.iconst 0, 1) := by decide +kernel
theorem dL_known_91 : decode cL_known 91 = .ok (.iconst 4, 1) := by decide +kernel
theorem dL_known_92 : decode cL_known 92 = .ok (.iconst 0, 1) := by decide +kernel
theorem dL_known_93 : decode cL_known 93 = .ok (.invokevirtual 29, 3) := by decide +kernel
theorem dL_known_96 : decode cL_known 96 = .ok (.iconst 1, 1) := by decide +kernel
theorem dL_known_97 : decode cL_known 97 = .ok (.if_icmp .ne 18, 3) := by decide +kernel
theorem dL_known_100 : decode cL_known 100 = .ok (.aload_n 0, 1) := by decide +kernel
theorem dL_known_101 : decode cL_known 101 = .ok (.iconst 1, 1) := by decide +kernel
theorem dL_known_102 : decode cL_known 102 = .ok (.iconst 0, 1) := by decide +kernel
theorem dL_known_103 : decode cL_known 103 = .ok (.bipush 31, 2) := by decide +kernel
theorem dL_known_105 : decode cL_known 105 = .ok (.iconst 0, 1) := by decide +kernel
theorem dL_known_106 : decode cL_known 106 = .ok (.iconst 4, 1) := by decide +kernel
theorem dL_known_107 : decode cL_known 107 = .ok (.iconst 0, 1) := by decide +kernel
theorem dL_known_108 : decode cL_known 108 = .ok (.invokevirtual 29, 3) := by decide +kernel
theorem dL_known_111 : decode cL_known 111 = .ok (.iconst 2, 1) := by decide +kernel
theorem dL_known_112 : decode cL_known 112 = .ok (.if_icmp .eq 5, 3) := by decide +kernel
theorem dL_known_115 : decode cL_known 115 = .ok (.iconst 0, 1) := by decide +kernel
theorem dL_known_116 : decode cL_known 116 = .ok (.ireturn, 1) := by decide +kernel
theorem dL_known_117 : decode cL_known 117 = .ok (.aload_n 0, 1) := by decide +kernel
theorem dL_known_118 : decode cL_known 118 = .ok (.iconst 0, 1) := by decide +kernel
theorem dL_known_119 : decode cL_known 119 = .ok (.iconst 0, 1) := by decide +kernel
theorem dL_known_120 : decode cL_known 120 = .ok (.iconst 0, 1) := by decide +kernel
theorem dL_known_121 : decode cL_known 121 = .ok (.bipush 7, 2) := by decide +kernel
theorem dL_known_123 : decode cL_known 123 = .ok (.invokevirtual 43, 3) := by decide +kernel
theorem dL_known_126 : decode cL_known 126 = .ok (.bipush 54, 2) := by decide +kernel
theorem dL_known_128 : decode cL_known 128 = .ok (.if_icmp .ne 190, 3) := by decide +kernel
theorem dL_known_131 : decode cL_known 131 = .ok (.aload_n 0, 1) := by decide +kernel
theorem dL_known_132 : decode cL_known 132 = .ok (.iconst 0, 1) := by decide +kernel
theorem dL_known_133 : decode cL_known 133 = .ok (.iconst 0, 1) := by decide +kernel
theorem dL_known_134 : decode cL_known 134 = .ok (.iconst 1, 1) := by decide +kernel
theorem dL_known_135 : decode cL_known 135 = .ok (.bipush 7, 2) := by decide +kernel
theorem dL_known_137 : decode cL_known 137 = .ok (.invokevirtual 43, 3) := by decide +kernel
theorem dL_known_140 : decode cL_known 140 = .ok (.bipush 53, 2) := by decide +kernel
theorem dL_known_142 : decode cL_known 142 = .ok (.if_icmp .ne 176, 3) := by decide +kernel
theorem dL_known_145 : decode cL_known 145 = .ok (.aload_n 0, 1) := by decide +kernel
theorem dL_known_146 : decode cL_known 146 = .ok (.iconst 0, 1) := by decide +kernel
theorem dL_known_147 : decode cL_known 147 = .ok (.iconst 0, 1) := by decide +kernel
theorem dL_known_148 : decode cL_known 148 = .ok (.iconst 2, 1) := by decide +kernel
theorem dL_known_149 : decode cL_known 149 = .ok (.bipush 6, 2) := by decide +kernel
theorem dL_known_151 : decode cL_known 151 = .ok (.invokevirtual 43, 3) := by decide +kernel
theorem dL_known_154 : decode cL_known 154 = .ok (.ifCond .ne 164, 3) := by decide +kernel
theorem dL_known_157 : decode cL_known 157 = .ok (.aload_n 0, 1) := by decide +kernel
theorem dL_known_158 : decode cL_known 158 = .ok (.iconst 0, 1) := by decide +kernel
theorem dL_known_159 : decode cL_known 159 = .ok (.iconst 0, 1) := by decide +kernel
theorem dL_known_160 : decode cL_known 160 = .ok (.iconst 3, 1) := by decide +kernel
theorem dL_known_161 : decode cL_known 161 = .ok (.bipush 6, 2) := by decide +kernel
theorem dL_known_163 : decode cL_known 163 = .ok (.invokevirtual 43, 3) := by decide +kernel
theorem dL_known_166 : decode cL_known 166 = .ok (.ifCond .ne 152, 3) := by decide +kernel
theorem dL_known_169 : decode cL_known 169 = .ok (.aload_n 0, 1) := by decide +kernel
theorem dL_known_170 : decode cL_known 170 = .ok (.iconst 1, 1) := by decide +kernel
theorem dL_known_171 : decode cL_known 171 = .ok (.iconst 0, 1) := by decide +kernel
theorem dL_known_172 : decode cL_known 172 = .ok (.iconst 0, 1) := by decide +kernel
theorem dL_known_173 : decode cL_known 173 = .ok (.bipush 7, 2) := by decide +kernel
theorem dL_known_175 : decode cL_known 175 = .ok (.invokevirtual 43, 3) := by decide +kernel
theorem dL_known_178 : decode cL_known 178 = .ok (.bipush 53, 2) := by decide +kernel
theorem dL_known_180 : decode cL_known 180 = .ok (.if_icmp .ne 138, 3) := by decide +kernel
theorem dL_known_183 : decode cL_known 183 = .ok (.aload_n 0, 1) := by decide +kernel
theorem dL_known_184 : decode cL_known 184 = .ok (.iconst 1, 1) := by decide +kernel
theorem dL_known_185 : decode cL_known 185 = .ok (.iconst 0, 1) := by decide +kernel
theorem dL_known_186 : decode cL_known 186 = .ok (.iconst 1, 1) := by decide +kernel
theorem dL_known_187 : decode cL_known 187 = .ok (.bipush 7, 2) := by decide +kernel
theorem dL_known_189 : decode cL_known 189 = .ok (.invokevirtual 43, 3) := by decide +kernel
theorem dL_known_192 : decode cL_known 192 = .ok (.bipush 54, 2) := by decide +kernel
theorem dL_known_194 : decode cL_known 194 = .ok (.if_icmp .ne 124, 3) := by decide +kernel
theorem dL_known_197 : decode cL_known 197 = .ok (.aload_n 0, 1) := by decide +kernel
theorem dL_known_198 : decode cL_known 198 = .ok (.iconst 0, 1) := by decide +kernel
theorem dL_known_199 : decode cL_known 199 = .ok (.iconst 0, 1) := by decide +kernel
theorem dL_known_200 : decode cL_known 200 = .ok (.iconst 1, 1) := by decide +kernel
theorem dL_known_201 : decode cL_known 201 = .ok (.bipush 8, 2) := by decide +kernel
theorem dL_known_203 : decode cL_known 203 = .ok (.invokevirtual 43, 3) := by decide +kernel
theorem dL_known_206 : decode cL_known 206 = .ok (.bipush 32, 2) := by decide +kernel
theorem dL_known_208 : decode cL_known 208 = .ok (.if_icmp .ne 110, 3) := by decide +kernel
theorem dL_known_211 : decode cL_known 211 = .ok (.aload_n 0, 1) := by decide +kernel
theorem dL_known_212 : decode cL_known 212 = .ok (.iconst 0, 1) := by decide +kernel
theorem dL_known_213 : decode cL_known 213 = .ok (.iconst 0, 1) := by decide +kernel
theorem dL_known_214 : decode cL_known 214 = .ok (.iconst 3, 1) := by decide +kernel
theorem dL_known_215 : decode cL_known 215 = .ok (.bipush 8, 2) := by decide +kernel
theorem dL_known_217 : decode cL_known 217 = .ok (.invokevirtual 43, 3) := by decide +kernel
theorem dL_known_220 : decode cL_known 220 = .ok (.bipush 40, 2) := by decide +kernel
theorem dL_known_222 : decode cL_known 222 = .ok (.if_icmp .ne 96, 3) := by decide +kernel
theorem dL_known_225 : decode cL_known 225 = .ok (.aload_n 0, 1) := by decide +kernel
theorem dL_known_226 : decode cL_known 226 = .ok (.iconst 0, 1) := by decide +kernel
theorem dL_known_227 : decode cL_known 227 = .ok (.iconst 0, 1) := by decide +kernel
theorem dL_known_228 : decode cL_known 228 = .ok (.iconst 3, 1) := by decide +kernel
theorem dL_known_229 : decode cL_known 229 = .ok (.iconst 4, 1) := by decide +kernel
theorem dL_known_230 : decode cL_known 230 = .ok (.invokevirtual 43, 3) := by decide +kernel
theorem dL_known_233 : decode cL_known 233 = .ok (.bipush 24, 2) := by decide +kernel
theorem dL_known_235 : decode cL_known 235 = .ok (.if_icmp .ne 83, 3) := by decide +kernel
theorem dL_known_238 : decode cL_known 238 = .ok (.aload_n 0, 1) := by decide +kernel
theorem dL_known_239 : decode cL_known 239 = .ok (.iconst 0, 1) := by decide +kernel
theorem dL_known_240 : decode cL_known 240 = .ok (.iconst 0, 1) := by decide +kernel
theorem dL_known_241 : decode cL_known 241 = .ok (.iconst 3, 1) := by decide +kernel
theorem dL_known_242 : decode cL_known 242 = .ok (.iconst 5, 1) := by decide +kernel
theorem dL_known_243 : decode cL_known 243 = .ok (.invokevirtual 43, 3) := by decide +kernel
theorem dL_known_246 : decode cL_known 246 = .ok (.bipush 48, 2) := by decide +kernel
theorem dL_known_248 : decode cL_known 248 = .ok (.if_icmp .ne 70, 3) := by decide +kernel
theorem dL_known_251 : decode cL_known 251 = .ok (.aload_n 0, 1) := by decide +kernel
theorem dL_known_252 : decode cL_known 252 = .ok (.iconst 0, 1) := by decide +kernel
theorem dL_known_253 : decode cL_known 253 = .ok (.bipush 10, 2) := by decide +kernel
theorem dL_known_255 : decode cL_known 255 = .ok (.invokevirtual 39, 3) := by decide +kernel
theorem dL_known_258 : decode cL_known 258 = .ok (.bipush 72, 2) := by decide +kernel
theorem dL_known_260 : decode cL_known 260 = .ok (.if_icmp .ne 58, 3) := by decide +kernel
theorem dL_known_263 : decode cL_known 263 = .ok (.aload_n 0, 1) := by decide +kernel
theorem dL_known_264 : decode cL_known 264 = .ok (.iconst 0, 1) := by decide +kernel
theorem dL_known_265 : decode cL_known 265 = .ok (.bipush 7, 2) := by decide +kernel
theorem dL_known_267 : decode cL_known 267 = .ok (.invokevirtual 39, 3) := by decide +kernel
theorem dL_known_270 : decode cL_known 270 = .ok (.bipush 64, 2) := by decide +kernel
theorem dL_known_272 : decode cL_known 272 = .ok (.if_icmp .ne 46, 3) := by decide +kernel
theorem dL_known_275 : decode cL_known 275 = .ok (.aload_n 0, 1) := by decide +kernel
theorem dL_known_276 : decode cL_known 276 = .ok (.iconst 4, 1) := by decide +kernel
theorem dL_known_277 : decode cL_known 277 = .ok (.invokevirtual 53, 3) := by decide +kernel
theorem dL_known_280 : decode cL_known 280 = .ok (.ifCond .ne 38, 3) := by decide +kernel
theorem dL_known_283 : decode cL_known 283 = .ok (.aload_n 0, 1) := by decide +kernel
theorem dL_known_284 : decode cL_known 284 = .ok (.iconst 5, 1) := by decide +kernel
theorem dL_known_285 : decode cL_known 285 = .ok (.invokevirtual 53, 3) := by decide +kernel
theorem dL_known_288 : decode cL_known 288 = .ok (.iconst 2, 1) := by decide +kernel
theorem dL_known_289 : decode cL_known 289 = .ok (.if_icmp .ne 29, 3) := by decide +kernel
theorem dL_known_292 : decode cL_known 292 = .ok (.aload_n 0, 1) := by decide +kernel
theorem dL_known_293 : decode cL_known 293 = .ok (.iconst 0, 1) := by decide +kernel
theorem dL_known_294 : decode cL_known 294 = .ok (.iconst 0, 1) := by decide +kernel
theorem dL_known_295 : decode cL_known 295 = .ok (.bipush 71, 2) := by decide +kernel
theorem dL_known_297 : decode cL_known 297 = .ok (.invokevirtual 47, 3) := by decide +kernel
theorem dL_known_300 : decode cL_known 300 = .ok (.iconst 3, 1) := by decide +kernel
theorem dL_known_301 : decode cL_known 301 = .ok (.if_icmp .ne 17, 3) := by decide +kernel
theorem dL_known_304 : decode cL_known 304 = .ok (.aload_n 0, 1) := by decide +kernel
theorem dL_known_305 : decode cL_known 305 = .ok (.iconst 0, 1) := by decide +kernel
theorem dL_known_306 : decode cL_known 306 = .ok (.iconst 0, 1) := by decide +kernel
theorem dL_known_307 : decode cL_known 307 = .ok (.bipush 72, 2) := by decide +kernel
theorem dL_known_309 : decode cL_known 309 = .ok (.invokevirtual 47, 3) := by decide +kernel
theorem dL_known_312 : decode cL_known 312 = .ok (.sipush (-1000), 3) := by decide +kernel
theorem dL_known_315 : decode cL_known 315 = .ok (.if_icmp .eq 5, 3) := by decide +kernel
theorem dL_known_318 : decode cL_known 318 = .ok (.iconst 0, 1) := by decide +kernel
theorem dL_known_319 : decode cL_known 319 = .ok (.ireturn, 1) := by decide +kernel
theorem dL_known_320 : decode cL_known 320 = .ok (.aload_n 0, 1) := by decide +kernel
theorem dL_known_321 : decode cL_known 321 = .ok (.iconst 0, 1) := by decide +kernel
theorem dL_known_322 : decode cL_known 322 = .ok (.invokevirtual 100, 3) := by decide +kernel
theorem dL_known_325 : decode cL_known 325 = .ok (.ifCond .ne 52, 3) := by decide +kernel
theorem dL_known_328 : decode cL_known 328 = .ok (.aload_n 0, 1) := by decide +kernel
theorem dL_known_329 : decode cL_known 329 = .ok (.iconst 0, 1) := by decide +kernel
theorem dL_known_330 : decode cL_known 330 = .ok (.iconst 0, 1) := by decide +kernel
theorem dL_known_331 : decode cL_known 331 = .ok (.invokevirtual 94, 3) := by decide +kernel
theorem dL_known_334 : decode cL_known 334 = .ok (.iconst 1, 1) := by decide +kernel
theorem dL_known_335 : decode cL_known 335 = .ok (.if_icmp .ne 42, 3) := by decide +kernel
theorem dL_known_338 : decode cL_known 338 = .ok (.aload_n 0, 1) := by decide +kernel
theorem dL_known_339 : decode cL_known 339 = .ok (.iconst 1, 1) := by decide +kernel
theorem dL_known_340 : decode cL_known 340 = .ok (.iconst (-1), 1) := by decide +kernel
theorem dL_known_341 : decode cL_known 341 = .ok (.invokevirtual 94, 3) := by decide +kernel
theorem dL_known_344 : decode cL_known 344 = .ok (.iconst 1, 1) := by decide +kernel
theorem dL_known_345 : decode cL_known 345 = .ok (.if_icmp .ne 32, 3) := by decide +kernel
theorem dL_known_348 : decode cL_known 348 = .ok (.aload_n 0, 1) := by decide +kernel
theorem dL_known_349 : decode cL_known 349 = .ok (.iconst 1, 1) := by decide +kernel
theorem dL_known_350 : decode cL_known 350 = .ok (.invokevirtual 97, 3) := by decide +kernel
theorem dL_known_353 : decode cL_known 353 = .ok (.iconst 2, 1) := by decide +kernel
theorem dL_known_354 : decode cL_known 354 = .ok (.if_icmp .ne 23, 3) := by decide +kernel
theorem dL_known_357 : decode cL_known 357 = .ok (.aload_n 0, 1) := by decide +kernel
theorem dL_known_358 : decode cL_known 358 = .ok (.iconst 0, 1) := by decide +kernel
theorem dL_known_359 : decode cL_known 359 = .ok (.invokevirtual 75, 3) := by decide +kernel
theorem dL_known_362 : decode cL_known 362 = .ok (.bipush 27, 2) := by decide +kernel
theorem dL_known_364 : decode cL_known 364 = .ok (.if_icmp .ne 13, 3) := by decide +kernel
theorem dL_known_367 : decode cL_known 367 = .ok (.aload_n 0, 1) := by decide +kernel
theorem dL_known_368 : decode cL_known 368 = .ok (.iconst 1, 1) := by decide +kernel
theorem dL_known_369 : decode cL_known 369 = .ok (.invokevirtual 75, 3) := by decide +kernel
theorem dL_known_372 : decode cL_known 372 = .ok (.bipush 11, 2) := by decide +kernel
theorem dL_known_374 : decode cL_known 374 = .ok (.if_icmp .eq 5, 3) := by decide +kernel
theorem dL_known_377 : decode cL_known 377 = .ok (.iconst 0, 1) := by decide +kernel
theorem dL_known_378 : decode cL_known 378 = .ok (.ireturn, 1) := by decide +kernel
theorem dL_known_379 : decode cL_known 379 = .ok (.aload_n 0, 1) := by decide +kernel
theorem dL_known_380 : decode cL_known 380 = .ok (.invokevirtual 9, 3) := by decide +kernel
theorem dL_known_383 : decode cL_known 383 = .ok (.iconst 2, 1) := by decide +kernel
theorem dL_known_384 : decode cL_known 384 = .ok (.if_icmp .ne 137, 3) := by decide +kernel
theorem dL_known_387 : decode cL_known 387 = .ok (.aload_n 0, 1) := by decide +kernel
theorem dL_known_388 : decode cL_known 388 = .ok (.iconst 1, 1) := by decide +kernel
theorem dL_known_389 : decode cL_known 389 = .ok (.bipush 6, 2) := by decide +kernel
theorem dL_known_391 : decode cL_known 391 = .ok (.iconst 1, 1) := by decide +kernel
theorem dL_known_392 : decode cL_known 392 = .ok (.invokevirtual 23, 3) := by decide +kernel
theorem dL_known_395 : decode cL_known 395 = .ok (.ifCond .ne 126, 3) := by decide +kernel
theorem dL_known_398 : decode cL_known 398 = .ok (.aload_n 0, 1) := by decide +kernel
theorem dL_known_399 : decode cL_known 399 = .ok (.iconst 1, 1) := by decide +kernel
theorem dL_known_400 : decode cL_known 400 = .ok (.iconst 5, 1) := by decide +kernel
theorem dL_known_401 : decode cL_known 401 = .ok (.iconst 2, 1) := by decide +kernel
theorem dL_known_402 : decode cL_known 402 = .ok (.invokevirtual 23, 3) := by decide +kernel
theorem dL_known_405 : decode cL_known 405 = .ok (.ifCond .ne 116, 3) := by decide +kernel
theorem dL_known_408 : decode cL_known 408 = .ok (.aload_n 0, 1) := by decide +kernel
theorem dL_known_409 : decode cL_known 409 = .ok (.iconst 2, 1) := by decide +kernel
theorem dL_known_410 : decode cL_known 410 = .ok (.bipush 6, 2) := by decide +kernel
theorem dL_known_412 : decode cL_known 412 = .ok (.iconst 2, 1) := by decide +kernel
theorem dL_known_413 : decode cL_known 413 = .ok (.invokevirtual 23, 3) := by decide +kernel
theorem dL_known_416 : decode cL_known 416 = .ok (.ifCond .ne 105, 3) := by decide +kernel
theorem dL_known_419 : decode cL_known 419 = .ok (.aload_n 0, 1) := by decide +kernel
theorem dL_known_420 : decode cL_known 420 = .ok (.invokevirtual 9, 3) := by decide +kernel
theorem dL_known_423 : decode cL_known 423 = .ok (.iconst 3, 1) := by decide +kernel
theorem dL_known_424 : decode cL_known 424 = .ok (.if_icmp .ne 97, 3) := by decide +kernel
theorem dL_known_427 : decode cL_known 427 = .ok (.aload_n 0, 1) := by decide +kernel
theorem dL_known_428 : decode cL_known 428 = .ok (.bipush 6, 2) := by decide +kernel
theorem dL_known_430 : decode cL_known 430 = .ok (.invokevirtual 53, 3) := by decide +kernel
theorem dL_known_433 : decode cL_known 433 = .ok (.iconst 5, 1) := by decide +kernel
theorem dL_known_434 : decode cL_known 434 = .ok (.if_icmp .ne 87, 3) := by decide +kernel
theorem dL_known_437 : decode cL_known 437 = .ok (.aload_n 0, 1) := by decide +kernel
theorem dL_known_438 : decode cL_known 438 = .ok (.iconst 0, 1) := by decide +kernel
theorem dL_known_439 : decode cL_known 439 = .ok (.invokevirtual 56, 3) := by decide +kernel
theorem dL_known_442 : decode cL_known 442 = .ok (.ifCond .ne 79, 3) := by decide +kernel
theorem dL_known_445 : decode cL_known 445 = .ok (.aload_n 0, 1) := by decide +kernel
theorem dL_known_446 : decode cL_known 446 = .ok (.iconst 1, 1) := by decide +kernel
theorem dL_known_447 : decode cL_known 447 = .ok (.invokevirtual 56, 3) := by decide +kernel
theorem dL_known_450 : decode cL_known 450 = .ok (.iconst 1, 1) := by decide +kernel
theorem dL_known_451 : decode cL_known 451 = .ok (.if_icmp .ne 70, 3) := by decide +kernel
theorem dL_known_454 : decode cL_known 454 = .ok (.aload_n 0, 1) := by decide +kernel
theorem dL_known_455 : decode cL_known 455 = .ok (.iconst 2, 1) := by decide +kernel
theorem dL_known_456 : decode cL_known 456 = .ok (.invokevirtual 56, 3) := by decide +kernel
theorem dL_known_459 : decode cL_known 459 = .ok (.ifCond .ne 62, 3) := by decide +kernel
theorem dL_known_462 : decode cL_known 462 = .ok (.aload_n 0, 1) := by decide +kernel
theorem dL_known_463 : decode cL_known 463 = .ok (.iconst 3, 1) := by decide +kernel
theorem dL_known_464 : decode cL_known 464 = .ok (.invokevirtual 56, 3) := by decide +kernel
theorem dL_known_467 : decode cL_known 467 = .ok (.iconst 2, 1) := by decide +kernel
theorem dL_known_468 : decode cL_known 468 = .ok (.if_icmp .ne 53, 3) := by decide +kernel
theorem dL_known_471 : decode cL_known 471 = .ok (.aload_n 0, 1) := by decide +kernel
theorem dL_known_472 : decode cL_known 472 = .ok (.iconst 4, 1) := by decide +kernel
theorem dL_known_473 : decode cL_known 473 = .ok (.invokevirtual 56, 3) := by decide +kernel
theorem dL_known_476 : decode cL_known 476 = .ok (.iconst 3, 1) := by decide +kernel
theorem dL_known_477 : decode cL_known 477 = .ok (.if_icmp .ne 44, 3) := by decide +kernel
theorem dL_known_480 : decode cL_known 480 = .ok (.aload_n 0, 1) := by decide +kernel
theorem dL_known_481 : decode cL_known 481 = .ok (.iconst 5, 1) := by decide +kernel
theorem dL_known_482 : decode cL_known 482 = .ok (.invokevirtual 56, 3) := by decide +kernel
theorem dL_known_485 : decode cL_known 485 = .ok (.sipush (-1000), 3) := by decide +kernel
theorem dL_known_488 : decode cL_known 488 = .ok (.if_icmp .ne 33, 3) := by decide +kernel
theorem dL_known_491 : decode cL_known 491 = .ok (.aload_n 0, 1) := by decide +kernel
theorem dL_known_492 : decode cL_known 492 = .ok (.iconst 0, 1) := by decide +kernel
theorem dL_known_493 : decode cL_known 493 = .ok (.invokevirtual 59, 3) := by decide +kernel
theorem dL_known_496 : decode cL_known 496 = .ok (.iconst 2, 1) := by decide +kernel
theorem dL_known_497 : decode cL_known 497 = .ok (.if_icmp .ne 24, 3) := by decide +kernel
theorem dL_known_500 : decode cL_known 500 = .ok (.aload_n 0, 1) := by decide +kernel
theorem dL_known_501 : decode cL_known 501 = .ok (.iconst 3, 1) := by decide +kernel
theorem dL_known_502 : decode cL_known 502 = .ok (.invokevirtual 59, 3) := by decide +kernel
theorem dL_known_505 : decode cL_known 505 = .ok (.iconst 1, 1) := by decide +kernel
theorem dL_known_506 : decode cL_known 506 = .ok (.if_icmp .ne 15, 3) := by decide +kernel
theorem dL_known_509 : decode cL_known 509 = .ok (.aload_n 0, 1) := by decide +kernel
theorem dL_known_510 : decode cL_known 510 = .ok (.bipush 7, 2) := by decide +kernel
theorem dL_known_512 : decode cL_known 512 = .ok (.invokevirtual 53, 3) := by decide +kernel
theorem dL_known_515 : decode cL_known 515 = .ok (.sipush 320, 3) := by decide +kernel
theorem dL_known_518 : decode cL_known 518 = .ok (.if_icmp .eq 5, 3) := by decide +kernel
theorem dL_known_521 : decode cL_known 521 = .ok (.iconst 0, 1) := by decide +kernel
theorem dL_known_522 : decode cL_known 522 = .ok (.ireturn, 1) := by decide +kernel
theorem dL_known_523 : decode cL_known 523 = .ok (.aload_n 0, 1) := by decide +kernel
theorem dL_known_524 : decode cL_known 524 = .ok (.iconst 0, 1) := by decide +kernel
theorem dL_known_525 : decode cL_known 525 = .ok (.invokevirtual 62, 3) := by decide +kernel
theorem dL_known_528 : decode cL_known 528 = .ok (.fconst 0, 1) := by decide +kernel
theorem dL_known_529 : decode cL_known 529 = .ok (.fcmp .l, 1) := by decide +kernel
theorem dL_known_530 : decode cL_known 530 = .ok (.ifCond .ne 85, 3) := by decide +kernel
theorem dL_known_533 : decode cL_known 533 = .ok (.aload_n 0, 1) := by decide +kernel
theorem dL_known_534 : decode cL_known 534 = .ok (.iconst 1, 1) := by decide +kernel
theorem dL_known_535 : decode cL_known 535 = .ok (.invokevirtual 62, 3) := by decide +kernel
theorem dL_known_538 : decode cL_known 538 = .ok (.fconst 2, 1) := by decide +kernel
theorem dL_known_539 : decode cL_known 539 = .ok (.fcmp .l, 1) := by decide +kernel
theorem dL_known_540 : decode cL_known 540 = .ok (.ifCond .ne 75, 3) := by decide +kernel
theorem dL_known_543 : decode cL_known 543 = .ok (.aload_n 0, 1) := by decide +kernel
theorem dL_known_544 : decode cL_known 544 = .ok (.iconst 5, 1) := by decide +kernel
theorem dL_known_545 : decode cL_known 545 = .ok (.invokevirtual 62, 3) := by decide +kernel
theorem dL_known_548 : decode cL_known 548 = .ok (.ldc_w 323, 3) := by decide +kernel
theorem dL_known_551 : decode cL_known 551 = .ok (.fcmp .l, 1) := by decide +kernel
theorem dL_known_552 : decode cL_known 552 = .ok (.ifCond .ne 63, 3) := by decide +kernel
theorem dL_known_555 : decode cL_known 555 = .ok (.aload_n 0, 1) := by decide +kernel
theorem dL_known_556 : decode cL_known 556 = .ok (.bipush 99, 2) := by decide +kernel
theorem dL_known_558 : decode cL_known 558 = .ok (.invokevirtual 62, 3) := by decide +kernel
theorem dL_known_561 : decode cL_known 561 = .ok (.ldc_w 323, 3) := by decide +kernel
theorem dL_known_564 : decode cL_known 564 = .ok (.fcmp .l, 1) := by decide +kernel
theorem dL_known_565 : decode cL_known 565 = .ok (.ifCond .ne 50, 3) := by decide +kernel
theorem dL_known_568 : decode cL_known 568 = .ok (.aload_n 0, 1) := by decide +kernel
theorem dL_known_569 : decode cL_known 569 = .ok (.iconst 0, 1) := by decide +kernel
theorem dL_known_570 : decode cL_known 570 = .ok (.invokevirtual 66, 3) := by decide +kernel
theorem dL_known_573 : decode cL_known 573 = .ok (.ifCond .ne 42, 3) := by decide +kernel
theorem dL_known_576 : decode cL_known 576 = .ok (.aload_n 0, 1) := by decide +kernel
theorem dL_known_577 : decode cL_known 577 = .ok (.iconst 1, 1) := by decide +kernel
theorem dL_known_578 : decode cL_known 578 = .ok (.invokevirtual 66, 3) := by decide +kernel
theorem dL_known_581 : decode cL_known 581 = .ok (.ifCond .ne 34, 3) := by decide +kernel
theorem dL_known_584 : decode cL_known 584 = .ok (.aload_n 0, 1) := by decide +kernel
theorem dL_known_585 : decode cL_known 585 = .ok (.iconst 2, 1) := by decide +kernel
theorem dL_known_586 : decode cL_known 586 = .ok (.invokevirtual 66, 3) := by decide +kernel
theorem dL_known_589 : decode cL_known 589 = .ok (.iconst 1, 1) := by decide +kernel
theorem dL_known_590 : decode cL_known 590 = .ok (.if_icmp .ne 25, 3) := by decide +kernel
theorem dL_known_593 : decode cL_known 593 = .ok (.aload_n 0, 1) := by decide +kernel
theorem dL_known_594 : decode cL_known 594 = .ok (.bipush 9, 2) := by decide +kernel
theorem dL_known_596 : decode cL_known 596 = .ok (.invokevirtual 66, 3) := by decide +kernel
theorem dL_known_599 : decode cL_known 599 = .ok (.iconst 4, 1) := by decide +kernel
theorem dL_known_600 : decode cL_known 600 = .ok (.if_icmp .ne 15, 3) := by decide +kernel
theorem dL_known_603 : decode cL_known 603 = .ok (.aload_n 0, 1) := by decide +kernel
theorem dL_known_604 : decode cL_known 604 = .ok (.bipush 10, 2) := by decide +kernel
theorem dL_known_606 : decode cL_known 606 = .ok (.invokevirtual 66, 3) := by decide +kernel
theorem dL_known_609 : decode cL_known 609 = .ok (.sipush (-1000), 3) := by decide +kernel
theorem dL_known_612 : decode cL_known 612 = .ok (.if_icmp .eq 5, 3) := by decide +kernel
theorem dL_known_615 : decode cL_known 615 = .ok (.iconst 0, 1) := by decide +kernel
theorem dL_known_616 : decode cL_known 616 = .ok (.ireturn, 1) := by decide +kernel
theorem dL_known_617 : decode cL_known 617 = .ok (.aload_n 0, 1) := by decide +kernel
theorem dL_known_618 : decode cL_known 618 = .ok (.iconst 3, 1) := by decide +kernel
theorem dL_known_619 : decode cL_known 619 = .ok (.iconst 0, 1) := by decide +kernel
theorem dL_known_620 : decode cL_known 620 = .ok (.bipush 28, 2) := by decide +kernel
theorem dL_known_622 : decode cL_known 622 = .ok (.iconst 0, 1) := by decide +kernel
theorem dL_known_623 : decode cL_known 623 = .ok (.iconst 2, 1) := by decide +kernel
theorem dL_known_624 : decode cL_known 624 = .ok (.iconst 0, 1) := by decide +kernel
theorem dL_known_625 : decode cL_known 625 = .ok (.invokevirtual 29, 3) := by decide +kernel
theorem dL_known_628 : decode cL_known 628 = .ok (.iconst 1, 1) := by decide +kernel
theorem dL_known_629 : decode cL_known 629 = .ok (.if_icmp .ne 70, 3) := by decide +kernel
theorem dL_known_632 : decode cL_known 632 = .ok (.aload_n 0, 1) := by decide +kernel
theorem dL_known_633 : decode cL_known 633 = .ok (.iconst 3, 1) := by decide +kernel
theorem dL_known_634 : decode cL_known 634 = .ok (.iconst 0, 1) := by decide +kernel
theorem dL_known_635 : decode cL_known 635 = .ok (.bipush 40, 2) := by decide +kernel
theorem dL_known_637 : decode cL_known 637 = .ok (.iconst 0, 1) := by decide +kernel
theorem dL_known_638 : decode cL_known 638 = .ok (.iconst 2, 1) := by decide +kernel
theorem dL_known_639 : decode cL_known 639 = .ok (.iconst 0, 1) := by decide +kernel
theorem dL_known_640 : decode cL_known 640 = .ok (.invokevirtual 29, 3) := by decide +kernel
theorem dL_known_643 : decode cL_known 643 = .ok (.iconst 2, 1) := by decide +kernel
theorem dL_known_644 : decode cL_known 644 = .ok (.if_icmp .ne 55, 3) := by decide +kernel
theorem dL_known_647 : decode cL_known 647 = .ok (.aload_n 0, 1) := by decide +kernel
theorem dL_known_648 : decode cL_known 648 = .ok (.iconst 3, 1) := by decide +kernel
theorem dL_known_649 : decode cL_known 649 = .ok (.iconst 1, 1) := by decide +kernel
theorem dL_known_650 : decode cL_known 650 = .ok (.bipush 6, 2) := by decide +kernel
theorem dL_known_652 : decode cL_known 652 = .ok (.invokevirtual 33, 3) := by decide +kernel
theorem dL_known_655 : decode cL_known 655 = .ok (.iconst 1, 1) := by decide +kernel
theorem dL_known_656 : decode cL_known 656 = .ok (.if_icmp .ne 43, 3) := by decide +kernel
theorem dL_known_659 : decode cL_known 659 = .ok (.aload_n 0, 1) := by decide +kernel
theorem dL_known_660 : decode cL_known 660 = .ok (.iconst 3, 1) := by decide +kernel
theorem dL_known_661 : decode cL_known 661 = .ok (.iconst 1, 1) := by decide +kernel
theorem dL_known_662 : decode cL_known 662 = .ok (.bipush 29, 2) := by decide +kernel
theorem dL_known_664 : decode cL_known 664 = .ok (.iconst 0, 1) := by decide +kernel
theorem dL_known_665 : decode cL_known 665 = .ok (.iconst 4, 1) := by decide +kernel
theorem dL_known_666 : decode cL_known 666 = .ok (.iconst 0, 1) := by decide +kernel
theorem dL_known_667 : decode cL_known 667 = .ok (.invokevirtual 29, 3) := by decide +kernel
theorem dL_known_670 : decode cL_known 670 = .ok (.iconst 2, 1) := by decide +kernel
theorem dL_known_671 : decode cL_known 671 = .ok (.if_icmp .ne 28, 3) := by decide +kernel
theorem dL_known_674 : decode cL_known 674 = .ok (.aload_n 0, 1) := by decide +kernel
theorem dL_known_675 : decode cL_known 675 = .ok (.iconst 3, 1) := by decide +kernel
theorem dL_known_676 : decode cL_known 676 = .ok (.iconst 1, 1) := by decide +kernel
theorem dL_known_677 : decode cL_known 677 = .ok (.bipush 41, 2) := by decide +kernel
theorem dL_known_679 : decode cL_known 679 = .ok (.iconst 0, 1) := by decide +kernel
theorem dL_known_680 : decode cL_known 680 = .ok (.iconst 4, 1) := by decide +kernel
theorem dL_known_681 : decode cL_known 681 = .ok (.iconst 0, 1) := by decide +kernel
theorem dL_known_682 : decode cL_known 682 = .ok (.invokevirtual 29, 3) := by decide +kernel
theorem dL_known_685 : decode cL_known 685 = .ok (.iconst 3, 1) := by decide +kernel
theorem dL_known_686 : decode cL_known 686 = .ok (.if_icmp .ne 13, 3) := by decide +kernel
theorem dL_known_689 : decode cL_known 689 = .ok (.aload_n 0, 1) := by decide +kernel
theorem dL_known_690 : decode cL_known 690 = .ok (.iconst 3, 1) := by decide +kernel
theorem dL_known_691 : decode cL_known 691 = .ok (.invokevirtual 50, 3) := by decide +kernel
theorem dL_known_694 : decode cL_known 694 = .ok (.bipush 32, 2) := by decide +kernel
theorem dL_known_696 : decode cL_known 696 = .ok (.if_icmp .eq 5, 3) := by decide +kernel
theorem dL_known_699 : decode cL_known 699 = .ok (.iconst 0, 1) := by decide +kernel
theorem dL_known_700 : decode cL_known 700 = .ok (.ireturn, 1) := by decide +kernel
theorem dL_known_701 : decode cL_known 701 = .ok (.aload_n 0, 1) := by decide +kernel
theorem dL_known_702 : decode cL_known 702 = .ok (.ldc2_w 324, 3) := by decide +kernel
theorem dL_known_705 : decode cL_known 705 = .ok (.ldc2_w 326, 3) := by decide +kernel
theorem dL_known_708 : decode cL_known 708 = .ok (.ldc2_w 328, 3) := by decide +kernel
theorem dL_known_711 : decode cL_known 711 = .ok (.ldc2_w 330, 3) := by decide +kernel
theorem dL_known_714 : decode cL_known 714 = .ok (.ldc2_w 332, 3) := by decide +kernel
theorem dL_known_717 : decode cL_known 717 = .ok (.invokestatic 213, 3) := by decide +kernel
theorem dL_known_720 : decode cL_known 720 = .ok (.istore_n 1, 1) := by decide +kernel
theorem dL_known_721 : decode cL_known 721 = .ok (.aload_n 0, 1) := by decide +kernel
theorem dL_known_722 : decode cL_known 722 = .ok (.ldc2_w 225, 3) := by decide +kernel
theorem dL_known_725 : decode cL_known 725 = .ok (.invokestatic 206, 3) := by decide +kernel
theorem dL_known_728 : decode cL_known 728 = .ok (.iload_n 1, 1) := by decide +kernel
theorem dL_known_729 : decode cL_known 729 = .ok (.bipush 38, 2) := by decide +kernel
theorem dL_known_731 : decode cL_known 731 = .ok (.if_icmp .ne 128, 3) := by decide +kernel
theorem dL_known_734 : decode cL_known 734 = .ok (.aload_n 0, 1) := by decide +kernel
theorem dL_known_735 : decode cL_known 735 = .ok (.invokevirtual 210, 3) := by decide +kernel
theorem dL_known_738 : decode cL_known 738 = .ok (.sipush (-1000), 3) := by decide +kernel
theorem dL_known_741 : decode cL_known 741 = .ok (.if_icmp .ne 118, 3) := by decide +kernel
theorem dL_known_744 : decode cL_known 744 = .ok (.aload_n 0, 1) := by decide +kernel
theorem dL_known_745 : decode cL_known 745 = .ok (.iconst 3, 1) := by decide +kernel
theorem dL_known_746 : decode cL_known 746 = .ok (.invokevirtual 90, 3) := by decide +kernel
theorem dL_known_749 : decode cL_known 749 = .ok (.ifCond .ne 110, 3) := by decide +kernel
theorem dL_known_752 : decode cL_known 752 = .ok (.aload_n 0, 1) := by decide +kernel
theorem dL_known_753 : decode cL_known 753 = .ok (.iconst 3, 1) := by decide +kernel
theorem dL_known_754 : decode cL_known 754 = .ok (.invokevirtual 87, 3) := by decide +kernel
theorem dL_known_757 : decode cL_known 757 = .ok (.iconst 1, 1) := by decide +kernel
theorem dL_known_758 : decode cL_known 758 = .ok (.if_icmp .ne 101, 3) := by decide +kernel
theorem dL_known_761 : decode cL_known 761 = .ok (.aload_n 0, 1) := by decide +kernel
theorem dL_known_762 : decode cL_known 762 = .ok (.iconst 3, 1) := by decide +kernel
theorem dL_known_763 : decode cL_known 763 = .ok (.invokevirtual 90, 3) := by decide +kernel
theorem dL_known_766 : decode cL_known 766 = .ok (.ifCond .eq 93, 3) := by decide +kernel
theorem dL_known_769 : decode cL_known 769 = .ok (.aload_n 0, 1) := by decide +kernel
theorem dL_known_770 : decode cL_known 770 = .ok (.iconst 3, 1) := by decide +kernel
theorem dL_known_771 : decode cL_known 771 = .ok (.iconst 4, 1) := by decide +kernel
theorem dL_known_772 : decode cL_known 772 = .ok (.invokevirtual 39, 3) := by decide +kernel
theorem dL_known_775 : decode cL_known 775 = .ok (.iconst 1, 1) := by decide +kernel
theorem dL_known_776 : decode cL_known 776 = .ok (.if_icmp .ne 83, 3) := by decide +kernel
theorem dL_known_779 : decode cL_known 779 = .ok (.aload_n 0, 1) := by decide +kernel
theorem dL_known_780 : decode cL_known 780 = .ok (.iconst 3, 1) := by decide +kernel
theorem dL_known_781 : decode cL_known 781 = .ok (.bipush 9, 2) := by decide +kernel
theorem dL_known_783 : decode cL_known 783 = .ok (.invokevirtual 39, 3) := by decide +kernel
theorem dL_known_786 : decode cL_known 786 = .ok (.ifCond .ne 73, 3) := by decide +kernel
theorem dL_known_789 : decode cL_known 789 = .ok (.aload_n 0, 1) := by decide +kernel
theorem dL_known_790 : decode cL_known 790 = .ok (.iconst 3, 1) := by decide +kernel
theorem dL_known_791 : decode cL_known 791 = .ok (.iconst 0, 1) := by decide +kernel
theorem dL_known_792 : decode cL_known 792 = .ok (.iconst 0, 1) := by decide +kernel
theorem dL_known_793 : decode cL_known 793 = .ok (.iconst 0, 1) := by decide +kernel
theorem dL_known_794 : decode cL_known 794 = .ok (.invokevirtual 43, 3) := by decide +kernel
theorem dL_known_797 : decode cL_known 797 = .ok (.iconst 5, 1) := by decide +kernel
theorem dL_known_798 : decode cL_known 798 = .ok (.if_icmp .ne 61, 3) := by decide +kernel
theorem dL_known_801 : decode cL_known 801 = .ok (.aload_n 0, 1) := by decide +kernel
theorem dL_known_802 : decode cL_known 802 = .ok (.iconst 3, 1) := by decide +kernel
theorem dL_known_803 : decode cL_known 803 = .ok (.iconst 0, 1) := by decide +kernel
theorem dL_known_804 : decode cL_known 804 = .ok (.iconst 0, 1) := by decide +kernel
theorem dL_known_805 : decode cL_known 805 = .ok (.bipush 7, 2) := by decide +kernel
theorem dL_known_807 : decode cL_known 807 = .ok (.invokevirtual 43, 3) := by decide +kernel
theorem dL_known_810 : decode cL_known 810 = .ok (.bipush 8, 2) := by decide +kernel
theorem dL_known_812 : decode cL_known 812 = .ok (.if_icmp .ne 47, 3) := by decide +kernel
theorem dL_known_815 : decode cL_known 815 = .ok (.aload_n 0, 1) := by decide +kernel
theorem dL_known_816 : decode cL_known 816 = .ok (.iconst 3, 1) := by decide +kernel
theorem dL_known_817 : decode cL_known 817 = .ok (.iconst 0, 1) := by decide +kernel
theorem dL_known_818 : decode cL_known 818 = .ok (.iconst 0, 1) := by decide +kernel
theorem dL_known_819 : decode cL_known 819 = .ok (.bipush 9, 2) := by decide +kernel
theorem dL_known_821 : decode cL_known 821 = .ok (.invokevirtual 43, 3) := by decide +kernel
theorem dL_known_824 : decode cL_known 824 = .ok (.iconst 1, 1) := by decide +kernel
theorem dL_known_825 : decode cL_known 825 = .ok (.if_icmp .ne 34, 3) := by decide +kernel
theorem dL_known_828 : decode cL_known 828 = .ok (.aload_n 0, 1) := by decide +kernel
theorem dL_known_829 : decode cL_known 829 = .ok (.invokevirtual 103, 3) := by decide +kernel
theorem dL_known_832 : decode cL_known 832 = .ok (.iconst 3, 1) := by decide +kernel
theorem dL_known_833 : decode cL_known 833 = .ok (.if_icmp .ne 26, 3) := by decide +kernel
theorem dL_known_836 : decode cL_known 836 = .ok (.aload_n 0, 1) := by decide +kernel
theorem dL_known_837 : decode cL_known 837 = .ok (.iconst 3, 1) := by decide +kernel
theorem dL_known_838 : decode cL_known 838 = .ok (.bipush 9, 2) := by decide +kernel
theorem dL_known_840 : decode cL_known 840 = .ok (.invokevirtual 39, 3) := by decide +kernel
theorem dL_known_843 : decode cL_known 843 = .ok (.iconst 3, 1) := by decide +kernel
theorem dL_known_844 : decode cL_known 844 = .ok (.if_icmp .ne 15, 3) := by decide +kernel
theorem dL_known_847 : decode cL_known 847 = .ok (.aload_n 0, 1) := by decide +kernel
theorem dL_known_848 : decode cL_known 848 = .ok (.iconst 3, 1) := by decide +kernel
theorem dL_known_849 : decode cL_known 849 = .ok (.invokevirtual 90, 3) := by decide +kernel
theorem dL_known_852 : decode cL_known 852 = .ok (.ifCond .ne 7, 3) := by decide +kernel
theorem dL_known_855 : decode cL_known 855 = .ok (.iconst 1, 1) := by decide +kernel
theorem dL_known_856 : decode cL_known 856 = .ok (.goto 4, 3) := by decide +kernel
theorem dL_known_859 : decode cL_known 859 = .ok (.iconst 0, 1) := by decide +kernel
theorem dL_known_860 : decode cL_known 860 = .ok (.ireturn, 1) := by decide +kernel
theorem dL_law_0 : decode cL_law 0 = .ok (.new 10, 3) := by decide +kernel
theorem dL_law_3 : decode cL_law 3 = .ok (.dup, 1) := by decide +kernel
theorem dL_law_4 : decode cL_law 4 = .ok (.invokespecial 192, 3) := by decide +kernel
theorem dL_law_7 : decode cL_law 7 = .ok (.astore_n 1, 1) := by decide +kernel
theorem dL_law_8 : decode cL_law 8 = .ok (.aload_n 1, 1) := by decide +kernel
theorem dL_law_9 : decode cL_law 9 = .ok (.invokestatic 334, 3) := by decide +kernel
theorem dL_law_12 : decode cL_law 12 = .ok (.iconst (-1), 1) := by decide +kernel
theorem dL_law_13 : decode cL_law 13 = .ok (.if_icmp .ne 66, 3) := by decide +kernel
theorem dL_law_16 : decode cL_law 16 = .ok (.aload_n 1, 1) := by decide +kernel
theorem dL_law_17 : decode cL_law 17 = .ok (.invokestatic 197, 3) := by decide +kernel
theorem dL_law_20 : decode cL_law 20 = .ok (.ifCond .eq 59, 3) := by decide +kernel
theorem dL_law_23 : decode cL_law 23 = .ok (.aload_n 1, 1) := by decide +kernel
theorem dL_law_24 : decode cL_law 24 = .ok (.iconst 0, 1) := by decide +kernel
theorem dL_law_25 : decode cL_law 25 = .ok (.invokevirtual 66, 3) := by decide +kernel
theorem dL_law_28 : decode cL_law 28 = .ok (.sipush (-1000), 3) := by decide +kernel
theorem dL_law_31 : decode cL_law 31 = .ok (.if_icmp .ne 48, 3) := by decide +kernel
theorem dL_law_34 : decode cL_law 34 = .ok (.aload_n 1, 1) := by decide +kernel
theorem dL_law_35 : decode cL_law 35 = .ok (.iconst 0, 1) := by decide +kernel
theorem dL_law_36 : decode cL_law 36 = .ok (.invokevirtual 56, 3) := by decide +kernel
theorem dL_law_39 : decode cL_law 39 = .ok (.sipush (-1000), 3) := by decide +kernel
theorem dL_law_42 : decode cL_law 42 = .ok (.if_icmp .ne 37, 3) := by decide +kernel
theorem dL_law_45 : decode cL_law 45 = .ok (.aload_n 1, 1) := by decide +kernel
theorem dL_law_46 : decode cL_law 46 = .ok (.invokestatic 337, 3) := by decide +kernel
theorem dL_law_49 : decode cL_law 49 = .ok (.ifCond .eq 30, 3) := by decide +kernel
theorem dL_law_52 : decode cL_law 52 = .ok (.aload_n 1, 1) := by decide +kernel
theorem dL_law_53 : decode cL_law 53 = .ok (.iconst 0, 1) := by decide +kernel
theorem dL_law_54 : decode cL_law 54 = .ok (.invokevirtual 53, 3) := by decide +kernel
theorem dL_law_57 : decode cL_law 57 = .ok (.ifCond .ne 22, 3) := by decide +kernel
theorem dL_law_60 : decode cL_law 60 = .ok (.new 10, 3) := by decide +kernel
theorem dL_law_63 : decode cL_law 63 = .ok (.dup, 1) := by decide +kernel
theorem dL_law_64 : decode cL_law 64 = .ok (.invokespecial 192, 3) := by decide +kernel
theorem dL_law_67 : decode cL_law 67 = .ok (.invokestatic 340, 3) := by decide +kernel
theorem dL_law_70 : decode cL_law 70 = .ok (.ifCond .eq 9, 3) := by decide +kernel
theorem dL_law_73 : decode cL_law 73 = .ok (.invokestatic 343, 3) := by decide +kernel
theorem dL_law_76 : decode cL_law 76 = .ok (.ifCond .ne 5, 3) := by decide +kernel
theorem dL_law_79 : decode cL_law 79 = .ok (.iconst 0, 1) := by decide +kernel
theorem dL_law_80 : decode cL_law 80 = .ok (.ireturn, 1) := by decide +kernel
theorem dL_law_81 : decode cL_law 81 = .ok (.aload_n 1, 1) := by decide +kernel
theorem dL_law_82 : decode cL_law 82 = .ok (.invokevirtual 201, 3) := by decide +kernel
theorem dL_law_85 : decode cL_law 85 = .ok (.pop, 1) := by decide +kernel
theorem dL_law_86 : decode cL_law 86 = .ok (.aload_n 1, 1) := by decide +kernel
theorem dL_law_87 : decode cL_law 87 = .ok (.invokevirtual 9, 3) := by decide +kernel
theorem dL_law_90 : decode cL_law 90 = .ok (.pop, 1) := by decide +kernel
theorem dL_law_91 : decode cL_law 91 = .ok (.bipush 16, 2) := by decide +kernel
theorem dL_law_93 : decode cL_law 93 = .ok (.newarray .long, 2) := by decide +kernel
theorem dL_law_95 : decode cL_law 95 = .ok (.astore_n 2, 1) := by decide +kernel
theorem dL_law_96 : decode cL_law 96 = .ok (.iconst 0, 1) := by decide +kernel
theorem dL_law_97 : decode cL_law 97 = .ok (.istore_n 3, 1) := by decide +kernel
theorem dL_law_98 : decode cL_law 98 = .ok (.iload_n 3, 1) := by decide +kernel
theorem dL_law_99 : decode cL_law 99 = .ok (.bipush 12, 2) := by decide +kernel
theorem dL_law_101 : decode cL_law 101 = .ok (.if_icmp .ge 321, 3) := by decide +kernel
theorem dL_law_104 : decode cL_law 104 = .ok (.aload_n 0, 1) := by decide +kernel
theorem dL_law_105 : decode cL_law 105 = .ok (.iload_n 3, 1) := by decide +kernel
theorem dL_law_106 : decode cL_law 106 = .ok (.invokestatic 347, 3) := by decide +kernel
theorem dL_law_109 : decode cL_law 109 = .ok (.istore 4, 2) := by decide +kernel
theorem dL_law_111 : decode cL_law 111 = .ok (.aload_n 1, 1) := by decide +kernel
theorem dL_law_112 : decode cL_law 112 = .ok (.iconst 0, 1) := by decide +kernel
theorem dL_law_113 : decode cL_law 113 = .ok (.invokevirtual 53, 3) := by decide +kernel
theorem dL_law_116 : decode cL_law 116 = .ok (.istore 5, 2) := by decide +kernel
theorem dL_law_118 : decode cL_law 118 = .ok (.iload 4, 2) := by decide +kernel
theorem dL_law_120 : decode cL_law 120 = .ok (.iconst 3, 1) := by decide +kernel
theorem dL_law_121 : decode cL_law 121 = .ok (.ishr, 1) := by decide +kernel
theorem dL_law_122 : decode cL_law 122 = .ok (.iload 5, 2) := by decide +kernel
theorem dL_law_124 : decode cL_law 124 = .ok (.invokestatic 351, 3) := by decide +kernel
theorem dL_law_127 : decode cL_law 127 = .ok (.istore 6, 2) := by decide +kernel
theorem dL_law_129 : decode cL_law 129 = .ok (.aload_n 2, 1) := by decide +kernel
theorem dL_law_130 : decode cL_law 130 = .ok (.iload_n 3, 1) := by decide +kernel
theorem dL_law_131 : decode cL_law 131 = .ok (.aload_n 1, 1) := by decide +kernel
theorem dL_law_132 : decode cL_law 132 = .ok (.invokevirtual 106, 3) := by decide +kernel
theorem dL_law_135 : decode cL_law 135 = .ok (.lastore, 1) := by decide +kernel
theorem dL_law_136 : decode cL_law 136 = .ok (.iload 4, 2) := by decide +kernel
theorem dL_law_138 : decode cL_law 138 = .ok (.bipush 7, 2) := by decide +kernel
theorem dL_law_140 : decode cL_law 140 = .ok (.invokestatic 351, 3) := by decide +kernel
theorem dL_law_143 : decode cL_law 143 = .ok (.istore 7, 2) := by decide +kernel
theorem dL_law_145 : decode cL_law 145 = .ok (.iload 7, 2) := by decide +kernel
theorem dL_law_147 : decode cL_law 147 = .ok (.ifCond .ne 16, 3) := by decide +kernel
theorem dL_law_150 : decode cL_law 150 = .ok (.aload_n 1, 1) := by decide +kernel
theorem dL_law_151 : decode cL_law 151 = .ok (.invokestatic 193, 3) := by decide +kernel
theorem dL_law_154 : decode cL_law 154 = .ok (.iload 5, 2) := by decide +kernel
theorem dL_law_156 : decode cL_law 156 = .ok (.if_icmp .ne 7, 3) := by decide +kernel
theorem dL_law_159 : decode cL_law 159 = .ok (.iconst 1, 1) := by decide +kernel
theorem dL_law_160 : decode cL_law 160 = .ok (.goto 4, 3) := by decide +kernel
theorem dL_law_163 : decode cL_law 163 = .ok (.iconst 0, 1) := by decide +kernel
theorem dL_law_164 : decode cL_law 164 = .ok (.istore 8, 2) := by decide +kernel
theorem dL_law_166 : decode cL_law 166 = .ok (.iload 8, 2) := by decide +kernel
theorem dL_law_168 : decode cL_law 168 = .ok (.ifCond .ne 28, 3) := by decide +kernel
theorem dL_law_171 : decode cL_law 171 = .ok (.iload 7, 2) := by decide +kernel
theorem dL_law_173 : decode cL_law 173 = .ok (.iconst 1, 1) := by decide +kernel
theorem dL_law_174 : decode cL_law 174 = .ok (.if_icmp .ne 26, 3) := by decide +kernel
theorem dL_law_177 : decode cL_law 177 = .ok (.iload 5, 2) := by decide +kernel
theorem dL_law_179 : decode cL_law 179 = .ok (.iconst 1, 1) := by decide +kernel
theorem dL_law_180 : decode cL_law 180 = .ok (.if_icmp .le 20, 3) := by decide +kernel
theorem dL_law_183 : decode cL_law 183 = .ok (.aload_n 1, 1) := by decide +kernel
theorem dL_law_184 : decode cL_law 184 = .ok (.iload 6, 2) := by decide +kernel
theorem dL_law_186 : decode cL_law 186 = .ok (.invokevirtual 17, 3) := by decide +kernel
theorem dL_law_189 : decode cL_law 189 = .ok (.iload 5, 2) := by decide +kernel
theorem dL_law_191 : decode cL_law 191 = .ok (.iconst 1, 1) := by decide +kernel
theorem dL_law_192 : decode cL_law 192 = .ok (.isub, 1) := by decide +kernel
theorem dL_law_193 : decode cL_law 193 = .ok (.if_icmp .ne 7, 3) := by decide +kernel
theorem dL_law_196 : decode cL_law 196 = .ok (.iconst 1, 1) := by decide +kernel
theorem dL_law_197 : decode cL_law 197 = .ok (.goto 4, 3) := by decide +kernel
theorem dL_law_200 : decode cL_law 200 = .ok (.iconst 0, 1) := by decide +kernel
theorem dL_law_201 : decode cL_law 201 = .ok (.istore 8, 2) := by decide +kernel
theorem dL_law_203 : decode cL_law 203 = .ok (.iload 8, 2) := by decide +kernel
theorem dL_law_205 : decode cL_law 205 = .ok (.ifCond .ne 33, 3) := by decide +kernel
theorem dL_law_208 : decode cL_law 208 = .ok (.iload 7, 2) := by decide +kernel
theorem dL_law_210 : decode cL_law 210 = .ok (.iconst 2, 1) := by decide +kernel
theorem dL_law_211 : decode cL_law 211 = .ok (.if_icmp .ne 31, 3) := by decide +kernel
theorem dL_law_214 : decode cL_law 214 = .ok (.aload_n 1, 1) := by decide +kernel
theorem dL_law_215 : decode cL_law 215 = .ok (.iload 6, 2) := by decide +kernel
theorem dL_law_217 : decode cL_law 217 = .ok (.iconst 0, 1) := by decide +kernel
theorem dL_law_218 : decode cL_law 218 = .ok (.iload 4, 2) := by decide +kernel
theorem dL_law_220 : decode cL_law 220 = .ok (.iconst 5, 1) := by decide +kernel
theorem dL_law_221 : decode cL_law 221 = .ok (.ishr, 1) := by decide +kernel
theorem dL_law_222 : decode cL_law 222 = .ok (.bipush 15, 2) := by decide +kernel
theorem dL_law_224 : decode cL_law 224 = .ok (.invokestatic 351, 3) := by decide +kernel
theorem dL_law_227 : decode cL_law 227 = .ok (.bipush 7, 2) := by decide +kernel
theorem dL_law_229 : decode cL_law 229 = .ok (.isub, 1) := by decide +kernel
theorem dL_law_230 : decode cL_law 230 = .ok (.invokestatic 116, 3) := by decide +kernel
theorem dL_law_233 : decode cL_law 233 = .ok (.bipush (-8), 2) := by decide +kernel
theorem dL_law_235 : decode cL_law 235 = .ok (.if_icmp .le 7, 3) := by decide +kernel
theorem dL_law_238 : decode cL_law 238 = .ok (.iconst 1, 1) := by decide +kernel
theorem dL_law_239 : decode cL_law 239 = .ok (.goto 4, 3) := by decide +kernel
theorem dL_law_242 : decode cL_law 242 = .ok (.iconst 0, 1) := by decide +kernel
theorem dL_law_243 : decode cL_law 243 = .ok (.istore 8, 2) := by decide +kernel
theorem dL_law_245 : decode cL_law 245 = .ok (.iload 8, 2) := by decide +kernel
theorem dL_law_247 : decode cL_law 247 = .ok (.ifCond .ne 46, 3) := by decide +kernel
theorem dL_law_250 : decode cL_law 250 = .ok (.iload 7, 2) := by decide +kernel
theorem dL_law_252 : decode cL_law 252 = .ok (.iconst 3, 1) := by decide +kernel
theorem dL_law_253 : decode cL_law 253 = .ok (.if_icmp .ne 44, 3) := by decide +kernel
theorem dL_law_256 : decode cL_law 256 = .ok (.aload_n 1, 1) := by decide +kernel
theorem dL_law_257 : decode cL_law 257 = .ok (.iload 6, 2) := by decide +kernel
theorem dL_law_259 : decode cL_law 259 = .ok (.bipush 8, 2) := by decide +kernel
theorem dL_law_261 : decode cL_law 261 = .ok (.invokevirtual 39, 3) := by decide +kernel
theorem dL_law_264 : decode cL_law 264 = .ok (.ifCond .le 33, 3) := by decide +kernel
theorem dL_law_267 : decode cL_law 267 = .ok (.aload_n 1, 1) := by decide +kernel
theorem dL_law_268 : decode cL_law 268 = .ok (.iload 6, 2) := by decide +kernel
theorem dL_law_270 : decode cL_law 270 = .ok (.iconst 0, 1) := by decide +kernel
theorem dL_law_271 : decode cL_law 271 = .ok (.iload 4, 2) := by decide +kernel
theorem dL_law_273 : decode cL_law 273 = .ok (.bipush 6, 2) := by decide +kernel
theorem dL_law_275 : decode cL_law 275 = .ok (.ishr, 1) := by decide +kernel
theorem dL_law_276 : decode cL_law 276 = .ok (.aload_n 1, 1) := by decide +kernel
theorem dL_law_277 : decode cL_law 277 = .ok (.iload 6, 2) := by decide +kernel
theorem dL_law_279 : decode cL_law 279 = .ok (.bipush 8, 2) := by decide +kernel
theorem dL_law_281 : decode cL_law 281 = .ok (.invokevirtual 39, 3) := by decide +kernel
theorem dL_law_284 : decode cL_law 284 = .ok (.invokestatic 351, 3) := by decide +kernel
theorem dL_law_287 : decode cL_law 287 = .ok (.invokestatic 127, 3) := by decide +kernel
theorem dL_law_290 : decode cL_law 290 = .ok (.ifCond .lt 7, 3) := by decide +kernel
theorem dL_law_293 : decode cL_law 293 = .ok (.iconst 1, 1) := by decide +kernel
theorem dL_law_294 : decode cL_law 294 = .ok (.goto 4, 3) := by decide +kernel
theorem dL_law_297 : decode cL_law 297 = .ok (.iconst 0, 1) := by decide +kernel
theorem dL_law_298 : decode cL_law 298 = .ok (.istore 8, 2) := by decide +kernel
theorem dL_law_300 : decode cL_law 300 = .ok (.iload 8, 2) := by decide +kernel
theorem dL_law_302 : decode cL_law 302 = .ok (.ifCond .ne 36, 3) := by decide +kernel
theorem dL_law_305 : decode cL_law 305 = .ok (.iload 7, 2) := by decide +kernel
theorem dL_law_307 : decode cL_law 307 = .ok (.iconst 4, 1) := by decide +kernel
theorem dL_law_308 : decode cL_law 308 = .ok (.if_icmp .ne 34, 3) := by decide +kernel
theorem dL_law_311 : decode cL_law 311 = .ok (.aload_n 1, 1) := by decide +kernel
theorem dL_law_312 : decode cL_law 312 = .ok (.iload 6, 2) := by decide +kernel
theorem dL_law_314 : decode cL_law 314 = .ok (.iload 4, 2) := by decide +kernel
theorem dL_law_316 : decode cL_law 316 = .ok (.bipush 7, 2) := by decide +kernel
theorem dL_law_318 : decode cL_law 318 = .ok (.ishr, 1) := by decide +kernel
theorem dL_law_319 : decode cL_law 319 = .ok (.iconst 2, 1) := by decide +kernel
theorem dL_law_320 : decode cL_law 320 = .ok (.invokestatic 351, 3) := by decide +kernel
theorem dL_law_323 : decode cL_law 323 = .ok (.iload 4, 2) := by decide +kernel
theorem dL_law_325 : decode cL_law 325 = .ok (.iconst 5, 1) := by decide +kernel
theorem dL_law_326 : decode cL_law 326 = .ok (.ishr, 1) := by decide +kernel
theorem dL_law_327 : decode cL_law 327 = .ok (.bipush 10, 2) := by decide +kernel
theorem dL_law_329 : decode cL_law 329 = .ok (.invokestatic 351, 3) := by decide +kernel
theorem dL_law_332 : decode cL_law 332 = .ok (.invokestatic 124, 3) := by decide +kernel
theorem dL_law_335 : decode cL_law 335 = .ok (.ifCond .le 7, 3) := by decide +kernel
theorem dL_law_338 : decode cL_law 338 = .ok (.iconst 1, 1) := by decide +kernel
theorem dL_law_339 : decode cL_law 339 = .ok (.goto 4, 3) := by decide +kernel
theorem dL_law_342 : decode cL_law 342 = .ok (.iconst 0, 1) := by decide +kernel
theorem dL_law_343 : decode cL_law 343 = .ok (.istore 8, 2) := by decide +kernel
theorem dL_law_345 : decode cL_law 345 = .ok (.iload 8, 2) := by decide +kernel
theorem dL_law_347 : decode cL_law 347 = .ok (.ifCond .ne 48, 3) := by decide +kernel
theorem dL_law_350 : decode cL_law 350 = .ok (.aload_n 1, 1) := by decide +kernel
theorem dL_law_351 : decode cL_law 351 = .ok (.iload 6, 2) := by decide +kernel
theorem dL_law_353 : decode cL_law 353 = .ok (.iload 4, 2) := by decide +kernel
theorem dL_law_355 : decode cL_law 355 = .ok (.bipush 8, 2) := by decide +kernel
theorem dL_law_357 : decode cL_law 357 = .ok (.ishr, 1) := by decide +kernel
theorem dL_law_358 : decode cL_law 358 = .ok (.iconst 2, 1) := by decide +kernel
theorem dL_law_359 : decode cL_law 359 = .ok (.invokestatic 351, 3) := by decide +kernel
theorem dL_law_362 : decode cL_law 362 = .ok (.iload 4, 2) := by decide +kernel
theorem dL_law_364 : decode cL_law 364 = .ok (.iconst 4, 1) := by decide +kernel
theorem dL_law_365 : decode cL_law 365 = .ok (.ishr, 1) := by decide +kernel
theorem dL_law_366 : decode cL_law 366 = .ok (.bipush 63, 2) := by decide +kernel
theorem dL_law_368 : decode cL_law 368 = .ok (.invokestatic 351, 3) := by decide +kernel
theorem dL_law_371 : decode cL_law 371 = .ok (.iload 4, 2) := by decide +kernel
theorem dL_law_373 : decode cL_law 373 = .ok (.bipush 6, 2) := by decide +kernel
theorem dL_law_375 : decode cL_law 375 = .ok (.ishr, 1) := by decide +kernel
theorem dL_law_376 : decode cL_law 376 = .ok (.iconst 4, 1) := by decide +kernel
theorem dL_law_377 : decode cL_law 377 = .ok (.invokestatic 351, 3) := by decide +kernel
theorem dL_law_380 : decode cL_law 380 = .ok (.iload 4, 2) := by decide +kernel
theorem dL_law_382 : decode cL_law 382 = .ok (.iconst 5, 1) := by decide +kernel
theorem dL_law_383 : decode cL_law 383 = .ok (.ishr, 1) := by decide +kernel
theorem dL_law_384 : decode cL_law 384 = .ok (.bipush 10, 2) := by decide +kernel
theorem dL_law_386 : decode cL_law 386 = .ok (.invokestatic 351, 3) := by decide +kernel
theorem dL_law_389 : decode cL_law 389 = .ok (.invokestatic 120, 3) := by decide +kernel
theorem dL_law_392 : decode cL_law 392 = .ok (.ifCond .le 7, 3) := by decide +kernel
theorem dL_law_395 : decode cL_law 395 = .ok (.iconst 1, 1) := by decide +kernel
theorem dL_law_396 : decode cL_law 396 = .ok (.goto 4, 3) := by decide +kernel
theorem dL_law_399 : decode cL_law 399 = .ok (.iconst 0, 1) := by decide +kernel
theorem dL_law_400 : decode cL_law 400 = .ok (.istore 8, 2) := by decide +kernel
theorem dL_law_402 : decode cL_law 402 = .ok (.iload 8, 2) := by decide +kernel
theorem dL_law_404 : decode cL_law 404 = .ok (.ifCond .eq 10, 3) := by decide +kernel
theorem dL_law_407 : decode cL_law 407 = .ok (.aload_n 1, 1) := by decide +kernel
theorem dL_law_408 : decode cL_law 408 = .ok (.invokestatic 197, 3) := by decide +kernel
theorem dL_law_411 : decode cL_law 411 = .ok (.ifCond .ne 5, 3) := by decide +kernel
theorem dL_law_414 : decode cL_law 414 = .ok (.iconst 0, 1) := by decide +kernel
theorem dL_law_415 : decode cL_law 415 = .ok (.ireturn, 1) := by decide +kernel
theorem dL_law_416 : decode cL_law 416 = .ok (.iinc 3 1, 3) := by decide +kernel
theorem dL_law_419 : decode cL_law 419 = .ok (.goto (-321), 3) := by decide +kernel
theorem dL_law_422 : decode cL_law 422 = .ok (.iconst 3, 1) := by decide +kernel
theorem dL_law_423 : decode cL_law 423 = .ok (.istore_n 3, 1) := by decide +kernel
theorem dL_law_424 : decode cL_law 424 = .ok (.iload_n 3, 1) := by decide +kernel
theorem dL_law_425 : decode cL_law 425 = .ok (.ifCond .lt 101, 3) := by decide +kernel
theorem dL_law_428 : decode cL_law 428 = .ok (.aload_n 1, 1) := by decide +kernel
theorem dL_law_429 : decode cL_law 429 = .ok (.invokevirtual 103, 3) := by decide +kernel
theorem dL_law_432 : decode cL_law 432 = .ok (.iload_n 3, 1) := by decide +kernel
theorem dL_law_433 : decode cL_law 433 = .ok (.if_icmp .eq 5, 3) := by decide +kernel
theorem dL_law_436 : decode cL_law 436 = .ok (.iconst 0, 1) := by decide +kernel
theorem dL_law_437 : decode cL_law 437 = .ok (.ireturn, 1) := by decide +kernel
theorem dL_law_438 : decode cL_law 438 = .ok (.aload_n 1, 1) := by decide +kernel
theorem dL_law_439 : decode cL_law 439 = .ok (.iconst 0, 1) := by decide +kernel
theorem dL_law_440 : decode cL_law 440 = .ok (.iconst 3, 1) := by decide +kernel
theorem dL_law_441 : decode cL_law 441 = .ok (.invokevirtual 39, 3) := by decide +kernel
theorem dL_law_444 : decode cL_law 444 = .ok (.istore 4, 2) := by decide +kernel
theorem dL_law_446 : decode cL_law 446 = .ok (.iload_n 3, 1) := by decide +kernel
theorem dL_law_447 : decode cL_law 447 = .ok (.istore 5, 2) := by decide +kernel
theorem dL_law_449 : decode cL_law 449 = .ok (.iload 5, 2) := by decide +kernel
theorem dL_law_451 : decode cL_law 451 = .ok (.iconst 4, 1) := by decide +kernel
theorem dL_law_452 : decode cL_law 452 = .ok (.if_icmp .ge 24, 3) := by decide +kernel
theorem dL_law_455 : decode cL_law 455 = .ok (.aload_n 1, 1) := by decide +kernel
theorem dL_law_456 : decode cL_law 456 = .ok (.iconst 0, 1) := by decide +kernel
theorem dL_law_457 : decode cL_law 457 = .ok (.iconst 3, 1) := by decide +kernel
theorem dL_law_458 : decode cL_law 458 = .ok (.iload 4, 2) := by decide +kernel
theorem dL_law_460 : decode cL_law 460 = .ok (.invokevirtual 23, 3) := by decide +kernel
theorem dL_law_463 : decode cL_law 463 = .ok (.iload 4, 2) := by decide +kernel
theorem dL_law_465 : decode cL_law 465 = .ok (.if_icmp .eq 5, 3) := by decide +kernel
theorem dL_law_468 : decode cL_law 468 = .ok (.iconst 0, 1) := by decide +kernel
theorem dL_law_469 : decode cL_law 469 = .ok (.ireturn, 1) := by decide +kernel
theorem dL_law_470 : decode cL_law 470 = .ok (.iinc 5 1, 3) := by decide +kernel
theorem dL_law_473 : decode cL_law 473 = .ok (.goto (-24), 3) := by decide +kernel
theorem dL_law_476 : decode cL_law 476 = .ok (.aload_n 1, 1) := by decide +kernel
theorem dL_law_477 : decode cL_law 477 = .ok (.invokevirtual 106, 3) := by decide +kernel
theorem dL_law_480 : decode cL_law 480 = .ok (.aload_n 2, 1) := by decide +kernel
theorem dL_law_481 : decode cL_law 481 = .ok (.bipush 8, 2) := by decide +kernel
theorem dL_law_483 : decode cL_law 483 = .ok (.iload_n 3, 1) := by decide +kernel
theorem dL_law_484 : decode cL_law 484 = .ok (.iadd, 1) := by decide +kernel
theorem dL_law_485 : decode cL_law 485 = .ok (.laload, 1) := by decide +kernel
theorem dL_law_486 : decode cL_law 486 = .ok (.lcmp, 1) := by decide +kernel
theorem dL_law_487 : decode cL_law 487 = .ok (.ifCond .eq 5, 3) := by decide +kernel
theorem dL_law_490 : decode cL_law 490 = .ok (.iconst 0, 1) := by decide +kernel
theorem dL_law_491 : decode cL_law 491 = .ok (.ireturn, 1) := by decide +kernel
theorem dL_law_492 : decode cL_law 492 = .ok (.iconst 4, 1) := by decide +kernel
theorem dL_law_493 : decode cL_law 493 = .ok (.istore 5, 2) := by decide +kernel
theorem dL_law_495 : decode cL_law 495 = .ok (.iload 5, 2) := by decide +kernel
theorem dL_law_497 : decode cL_law 497 = .ok (.iload_n 3, 1) := by decide +kernel
theorem dL_law_498 : decode cL_law 498 = .ok (.if_icmp .le 22, 3) := by decide +kernel
theorem dL_law_501 : decode cL_law 501 = .ok (.aload_n 1, 1) := by decide +kernel
theorem dL_law_502 : decode cL_law 502 = .ok (.invokevirtual 103, 3) := by decide +kernel
theorem dL_law_505 : decode cL_law 505 = .ok (.iload 5, 2) := by decide +kernel
theorem dL_law_507 : decode cL_law 507 = .ok (.iconst 1, 1) := by decide +kernel
theorem dL_law_508 : decode cL_law 508 = .ok (.isub, 1) := by decide +kernel
theorem dL_law_509 : decode cL_law 509 = .ok (.if_icmp .eq 5, 3) := by decide +kernel
theorem dL_law_512 : decode cL_law 512 = .ok (.iconst 0, 1) := by decide +kernel
theorem dL_law_513 : decode cL_law 513 = .ok (.ireturn, 1) := by decide +kernel
theorem dL_law_514 : decode cL_law 514 = .ok (.iinc 5 (-1), 3) := by decide +kernel
theorem dL_law_517 : decode cL_law 517 = .ok (.goto (-22), 3) := by decide +kernel
theorem dL_law_520 : decode cL_law 520 = .ok (.iinc 3 (-1), 3) := by decide +kernel
theorem dL_law_523 : decode cL_law 523 = .ok (.goto (-99), 3) := by decide +kernel
theorem dL_law_526 : decode cL_law 526 = .ok (.aload_n 1, 1) := by decide +kernel
theorem dL_law_527 : decode cL_law 527 = .ok (.invokestatic 334, 3) := by decide +kernel
theorem dL_law_530 : decode cL_law 530 = .ok (.iconst (-1), 1) := by decide +kernel
theorem dL_law_531 : decode cL_law 531 = .ok (.if_icmp .ne 14, 3) := by decide +kernel
theorem dL_law_534 : decode cL_law 534 = .ok (.aload_n 1, 1) := by decide +kernel
theorem dL_law_535 : decode cL_law 535 = .ok (.invokestatic 197, 3) := by decide +kernel
theorem dL_law_538 : decode cL_law 538 = .ok (.ifCond .eq 7, 3) := by decide +kernel
theorem dL_law_541 : decode cL_law 541 = .ok (.iconst 1, 1) := by decide +kernel
theorem dL_law_542 : decode cL_law 542 = .ok (.goto 4, 3) := by decide +kernel
theorem dL_law_545 : decode cL_law 545 = .ok (.iconst 0, 1) := by decide +kernel
theorem dL_law_546 : decode cL_law 546 = .ok (.ireturn, 1) := by decide +kernel
