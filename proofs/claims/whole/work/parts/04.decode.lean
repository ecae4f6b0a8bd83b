theorem dX0_ofNote_0 : decode cX0_ofNote 0 = .ok (.sipush 8192, 3) := by decide +kernel
theorem dX0_ofNote_3 : decode cX0_ofNote 3 = .ok (.iload_n 0, 1) := by decide +kernel
theorem dX0_ofNote_4 : decode cX0_ofNote 4 = .ok (.bipush 7, 2) := by decide +kernel
theorem dX0_ofNote_6 : decode cX0_ofNote 6 = .ok (.ishl, 1) := by decide +kernel
theorem dX0_ofNote_7 : decode cX0_ofNote 7 = .ok (.ior, 1) := by decide +kernel
theorem dX0_ofNote_8 : decode cX0_ofNote 8 = .ok (.iload_n 1, 1) := by decide +kernel
theorem dX0_ofNote_9 : decode cX0_ofNote 9 = .ok (.iconst 5, 1) := by decide +kernel
theorem dX0_ofNote_10 : decode cX0_ofNote 10 = .ok (.ishl, 1) := by decide +kernel
theorem dX0_ofNote_11 : decode cX0_ofNote 11 = .ok (.ior, 1) := by decide +kernel
theorem dX0_ofNote_12 : decode cX0_ofNote 12 = .ok (.iload_n 3, 1) := by decide +kernel
theorem dX0_ofNote_13 : decode cX0_ofNote 13 = .ok (.ifCond .eq 8, 3) := by decide +kernel
theorem dX0_ofNote_16 : decode cX0_ofNote 16 = .ok (.bipush 16, 2) := by decide +kernel
theorem dX0_ofNote_18 : decode cX0_ofNote 18 = .ok (.goto 4, 3) := by decide +kernel
theorem dX0_ofNote_21 : decode cX0_ofNote 21 = .ok (.iconst 0, 1) := by decide +kernel
theorem dX0_ofNote_22 : decode cX0_ofNote 22 = .ok (.ior, 1) := by decide +kernel
theorem dX0_ofNote_23 : decode cX0_ofNote 23 = .ok (.iload_n 2, 1) := by decide +kernel
theorem dX0_ofNote_24 : decode cX0_ofNote 24 = .ok (.ior, 1) := by decide +kernel
theorem dX0_ofNote_25 : decode cX0_ofNote 25 = .ok (.ireturn, 1) := by decide +kernel
theorem dX0_ofRest_0 : decode cX0_ofRest 0 = .ok (.sipush 16384, 3) := by decide +kernel
theorem dX0_ofRest_3 : decode cX0_ofRest 3 = .ok (.iload_n 0, 1) := by decide +kernel
theorem dX0_ofRest_4 : decode cX0_ofRest 4 = .ok (.ior, 1) := by decide +kernel
theorem dX0_ofRest_5 : decode cX0_ofRest 5 = .ok (.ireturn, 1) := by decide +kernel
theorem dX0_isNote_0 : decode cX0_isNote 0 = .ok (.iload_n 0, 1) := by decide +kernel
theorem dX0_isNote_1 : decode cX0_isNote 1 = .ok (.sipush 8192, 3) := by decide +kernel
theorem dX0_isNote_4 : decode cX0_isNote 4 = .ok (.iand, 1) := by decide +kernel
theorem dX0_isNote_5 : decode cX0_isNote 5 = .ok (.ifCond .eq 7, 3) := by decide +kernel
theorem dX0_isNote_8 : decode cX0_isNote 8 = .ok (.iconst 1, 1) := by decide +kernel
theorem dX0_isNote_9 : decode cX0_isNote 9 = .ok (.goto 4, 3) := by decide +kernel
theorem dX0_isNote_12 : decode cX0_isNote 12 = .ok (.iconst 0, 1) := by decide +kernel
theorem dX0_isNote_13 : decode cX0_isNote 13 = .ok (.ireturn, 1) := by decide +kernel
theorem dX0_isTied_0 : decode cX0_isTied 0 = .ok (.iload_n 0, 1) := by decide +kernel
theorem dX0_isTied_1 : decode cX0_isTied 1 = .ok (.bipush 16, 2) := by decide +kernel
theorem dX0_isTied_3 : decode cX0_isTied 3 = .ok (.iand, 1) := by decide +kernel
theorem dX0_isTied_4 : decode cX0_isTied 4 = .ok (.ifCond .eq 7, 3) := by decide +kernel
theorem dX0_isTied_7 : decode cX0_isTied 7 = .ok (.iconst 1, 1) := by decide +kernel
theorem dX0_isTied_8 : decode cX0_isTied 8 = .ok (.goto 4, 3) := by decide +kernel
theorem dX0_isTied_11 : decode cX0_isTied 11 = .ok (.iconst 0, 1) := by decide +kernel
theorem dX0_isTied_12 : decode cX0_isTied 12 = .ok (.ireturn, 1) := by decide +kernel
theorem dX0_pitchOf_0 : decode cX0_pitchOf 0 = .ok (.iload_n 0, 1) := by decide +kernel
theorem dX0_pitchOf_1 : decode cX0_pitchOf 1 = .ok (.bipush 7, 2) := by decide +kernel
theorem dX0_pitchOf_3 : decode cX0_pitchOf 3 = .ok (.ishr, 1) := by decide +kernel
theorem dX0_pitchOf_4 : decode cX0_pitchOf 4 = .ok (.bipush 63, 2) := by decide +kernel
theorem dX0_pitchOf_6 : decode cX0_pitchOf 6 = .ok (.iand, 1) := by decide +kernel
theorem dX0_pitchOf_7 : decode cX0_pitchOf 7 = .ok (.ireturn, 1) := by decide +kernel
theorem dX0_octaveOf_0 : decode cX0_octaveOf 0 = .ok (.iload_n 0, 1) := by decide +kernel
theorem dX0_octaveOf_1 : decode cX0_octaveOf 1 = .ok (.invokestatic 9, 3) := by decide +kernel
theorem dX0_octaveOf_4 : decode cX0_octaveOf 4 = .ok (.bipush 7, 2) := by decide +kernel
theorem dX0_octaveOf_6 : decode cX0_octaveOf 6 = .ok (.idiv, 1) := by decide +kernel
theorem dX0_octaveOf_7 : decode cX0_octaveOf 7 = .ok (.ireturn, 1) := by decide +kernel
theorem dX0_stepOf_0 : decode cX0_stepOf 0 = .ok (.iload_n 0, 1) := by decide +kernel
theorem dX0_stepOf_1 : decode cX0_stepOf 1 = .ok (.invokestatic 9, 3) := by decide +kernel
theorem dX0_stepOf_4 : decode cX0_stepOf 4 = .ok (.bipush 7, 2) := by decide +kernel
theorem dX0_stepOf_6 : decode cX0_stepOf 6 = .ok (.irem, 1) := by decide +kernel
theorem dX0_stepOf_7 : decode cX0_stepOf 7 = .ok (.ireturn, 1) := by decide +kernel
theorem dX0_signOf_0 : decode cX0_signOf 0 = .ok (.iload_n 0, 1) := by decide +kernel
theorem dX0_signOf_1 : decode cX0_signOf 1 = .ok (.iconst 5, 1) := by decide +kernel
theorem dX0_signOf_2 : decode cX0_signOf 2 = .ok (.ishr, 1) := by decide +kernel
theorem dX0_signOf_3 : decode cX0_signOf 3 = .ok (.iconst 3, 1) := by decide +kernel
theorem dX0_signOf_4 : decode cX0_signOf 4 = .ok (.iand, 1) := by decide +kernel
theorem dX0_signOf_5 : decode cX0_signOf 5 = .ok (.ireturn, 1) := by decide +kernel
theorem dX0_durationOf_0 : decode cX0_durationOf 0 = .ok (.iload_n 0, 1) := by decide +kernel
theorem dX0_durationOf_1 : decode cX0_durationOf 1 = .ok (.bipush 15, 2) := by decide +kernel
theorem dX0_durationOf_3 : decode cX0_durationOf 3 = .ok (.iand, 1) := by decide +kernel
theorem dX0_durationOf_4 : decode cX0_durationOf 4 = .ok (.ireturn, 1) := by decide +kernel
theorem dX0_isDotted_0 : decode cX0_isDotted 0 = .ok (.iload_n 0, 1) := by decide +kernel
theorem dX0_isDotted_1 : decode cX0_isDotted 1 = .ok (.invokestatic 13, 3) := by decide +kernel
theorem dX0_isDotted_4 : decode cX0_isDotted 4 = .ok (.iconst 2, 1) := by decide +kernel
theorem dX0_isDotted_5 : decode cX0_isDotted 5 = .ok (.irem, 1) := by decide +kernel
theorem dX0_isDotted_6 : decode cX0_isDotted 6 = .ok (.iconst 1, 1) := by decide +kernel
theorem dX0_isDotted_7 : decode cX0_isDotted 7 = .ok (.if_icmp .ne 7, 3) := by decide +kernel
theorem dX0_isDotted_10 : decode cX0_isDotted 10 = .ok (.iconst 1, 1) := by decide +kernel
theorem dX0_isDotted_11 : decode cX0_isDotted 11 = .ok (.goto 4, 3) := by decide +kernel
theorem dX0_isDotted_14 : decode cX0_isDotted 14 = .ok (.iconst 0, 1) := by decide +kernel
theorem dX0_isDotted_15 : decode cX0_isDotted 15 = .ok (.ireturn, 1) := by decide +kernel
theorem dX0_lengthOf_0 : decode cX0_lengthOf 0 = .ok (.iload_n 0, 1) := by decide +kernel
theorem dX0_lengthOf_1 : decode cX0_lengthOf 1 = .ok (.invokestatic 13, 3) := by decide +kernel
theorem dX0_lengthOf_4 : decode cX0_lengthOf 4 = .ok (.iconst 2, 1) := by decide +kernel
theorem dX0_lengthOf_5 : decode cX0_lengthOf 5 = .ok (.idiv, 1) := by decide +kernel
theorem dX0_lengthOf_6 : decode cX0_lengthOf 6 = .ok (.ireturn, 1) := by decide +kernel
theorem dX0_ticksOf_0 : decode cX0_ticksOf 0 = .ok (.iload_n 0, 1) := by decide +kernel
theorem dX0_ticksOf_1 : decode cX0_ticksOf 1 = .ok (.invokestatic 13, 3) := by decide +kernel
theorem dX0_ticksOf_4 : decode cX0_ticksOf 4 = .ok (.istore_n 1, 1) := by decide +kernel
theorem dX0_ticksOf_5 : decode cX0_ticksOf 5 = .ok (.bipush 64, 2) := by decide +kernel
theorem dX0_ticksOf_7 : decode cX0_ticksOf 7 = .ok (.iload_n 1, 1) := by decide +kernel
theorem dX0_ticksOf_8 : decode cX0_ticksOf 8 = .ok (.iconst 2, 1) := by decide +kernel
theorem dX0_ticksOf_9 : decode cX0_ticksOf 9 = .ok (.idiv, 1) := by decide +kernel
theorem dX0_ticksOf_10 : decode cX0_ticksOf 10 = .ok (.ishr, 1) := by decide +kernel
theorem dX0_ticksOf_11 : decode cX0_ticksOf 11 = .ok (.istore_n 2, 1) := by decide +kernel
theorem dX0_ticksOf_12 : decode cX0_ticksOf 12 = .ok (.iload_n 1, 1) := by decide +kernel
theorem dX0_ticksOf_13 : decode cX0_ticksOf 13 = .ok (.iconst 2, 1) := by decide +kernel
theorem dX0_ticksOf_14 : decode cX0_ticksOf 14 = .ok (.irem, 1) := by decide +kernel
theorem dX0_ticksOf_15 : decode cX0_ticksOf 15 = .ok (.iconst 1, 1) := by decide +kernel
theorem dX0_ticksOf_16 : decode cX0_ticksOf 16 = .ok (.if_icmp .ne 11, 3) := by decide +kernel
theorem dX0_ticksOf_19 : decode cX0_ticksOf 19 = .ok (.iload_n 2, 1) := by decide +kernel
theorem dX0_ticksOf_20 : decode cX0_ticksOf 20 = .ok (.iload_n 2, 1) := by decide +kernel
theorem dX0_ticksOf_21 : decode cX0_ticksOf 21 = .ok (.iconst 2, 1) := by decide +kernel
theorem dX0_ticksOf_22 : decode cX0_ticksOf 22 = .ok (.idiv, 1) := by decide +kernel
theorem dX0_ticksOf_23 : decode cX0_ticksOf 23 = .ok (.iadd, 1) := by decide +kernel
theorem dX0_ticksOf_24 : decode cX0_ticksOf 24 = .ok (.goto 4, 3) := by decide +kernel
theorem dX0_ticksOf_27 : decode cX0_ticksOf 27 = .ok (.iload_n 2, 1) := by decide +kernel
theorem dX0_ticksOf_28 : decode cX0_ticksOf 28 = .ok (.ireturn, 1) := by decide +kernel
theorem dX0_samePitch_0 : decode cX0_samePitch 0 = .ok (.iload_n 0, 1) := by decide +kernel
theorem dX0_samePitch_1 : decode cX0_samePitch 1 = .ok (.invokestatic 16, 3) := by decide +kernel
theorem dX0_samePitch_4 : decode cX0_samePitch 4 = .ok (.ifCond .eq 25, 3) := by decide +kernel
theorem dX0_samePitch_7 : decode cX0_samePitch 7 = .ok (.iload_n 1, 1) := by decide +kernel
theorem dX0_samePitch_8 : decode cX0_samePitch 8 = .ok (.invokestatic 16, 3) := by decide +kernel
theorem dX0_samePitch_11 : decode cX0_samePitch 11 = .ok (.ifCond .eq 18, 3) := by decide +kernel
theorem dX0_samePitch_14 : decode cX0_samePitch 14 = .ok (.iload_n 0, 1) := by decide +kernel
theorem dX0_samePitch_15 : decode cX0_samePitch 15 = .ok (.invokestatic 9, 3) := by decide +kernel
theorem dX0_samePitch_18 : decode cX0_samePitch 18 = .ok (.iload_n 1, 1) := by decide +kernel
theorem dX0_samePitch_19 : decode cX0_samePitch 19 = .ok (.invokestatic 9, 3) := by decide +kernel
theorem dX0_samePitch_22 : decode cX0_samePitch 22 = .ok (.if_icmp .ne 7, 3) := by decide +kernel
theorem dX0_samePitch_25 : decode cX0_samePitch 25 = .ok (.iconst 1, 1) := by decide +kernel
theorem dX0_samePitch_26 : decode cX0_samePitch 26 = .ok (.goto 4, 3) := by decide +kernel
theorem dX0_samePitch_29 : decode cX0_samePitch 29 = .ok (.iconst 0, 1) := by decide +kernel
theorem dX0_samePitch_30 : decode cX0_samePitch 30 = .ok (.ireturn, 1) := by decide +kernel
theorem dX1_init_0 : decode cX1_init 0 = .ok (.aload_n 0, 1) := by decide +kernel
theorem dX1_init_1 : decode cX1_init 1 = .ok (.invokespecial 1, 3) := by decide +kernel
theorem dX1_init_4 : decode cX1_init 4 = .ok (.aload_n 0, 1) := by decide +kernel
theorem dX1_init_5 : decode cX1_init 5 = .ok (.iconst 4, 1) := by decide +kernel
theorem dX1_init_6 : decode cX1_init 6 = .ok (.anewarray 9, 3) := by decide +kernel
theorem dX1_init_9 : decode cX1_init 9 = .ok (.putfield 11, 3) := by decide +kernel
theorem dX1_init_12 : decode cX1_init 12 = .ok (.iconst 0, 1) := by decide +kernel
theorem dX1_init_13 : decode cX1_init 13 = .ok (.istore_n 1, 1) := by decide +kernel
theorem dX1_init_14 : decode cX1_init 14 = .ok (.iload_n 1, 1) := by decide +kernel
theorem dX1_init_15 : decode cX1_init 15 = .ok (.iconst 4, 1) := by decide +kernel
theorem dX1_init_16 : decode cX1_init 16 = .ok (.if_icmp .ge 22, 3) := by decide +kernel
theorem dX1_init_19 : decode cX1_init 19 = .ok (.aload_n 0, 1) := by decide +kernel
theorem dX1_init_20 : decode cX1_init 20 = .ok (.getfield 11, 3) := by decide +kernel
theorem dX1_init_23 : decode cX1_init 23 = .ok (.iload_n 1, 1) := by decide +kernel
theorem dX1_init_24 : decode cX1_init 24 = .ok (.new 9, 3) := by decide +kernel
theorem dX1_init_27 : decode cX1_init 27 = .ok (.dup, 1) := by decide +kernel
theorem dX1_init_28 : decode cX1_init 28 = .ok (.invokespecial 15, 3) := by decide +kernel
theorem dX1_init_31 : decode cX1_init 31 = .ok (.aastore, 1) := by decide +kernel
theorem dX1_init_32 : decode cX1_init 32 = .ok (.iinc 1 1, 3) := by decide +kernel
theorem dX1_init_35 : decode cX1_init 35 = .ok (.goto (-21), 3) := by decide +kernel
theorem dX1_init_38 : decode cX1_init 38 = .ok (.return_, 1) := by decide +kernel
theorem dX1_size_0 : decode cX1_size 0 = .ok (.aload_n 0, 1) := by decide +kernel
theorem dX1_size_1 : decode cX1_size 1 = .ok (.getfield 16, 3) := by decide +kernel
theorem dX1_size_4 : decode cX1_size 4 = .ok (.ireturn, 1) := by decide +kernel
theorem dX1_push_0 : decode cX1_push 0 = .ok (.aload_n 0, 1) := by decide +kernel
theorem dX1_push_1 : decode cX1_push 1 = .ok (.aload_n 0, 1) := by decide +kernel
theorem dX1_push_2 : decode cX1_push 2 = .ok (.getfield 20, 3) := by decide +kernel
theorem dX1_push_5 : decode cX1_push 5 = .ok (.invokevirtual 23, 3) := by decide +kernel
theorem dX1_push_8 : decode cX1_push 8 = .ok (.astore_n 2, 1) := by decide +kernel
theorem dX1_push_9 : decode cX1_push 9 = .ok (.aload_n 2, 1) := by decide +kernel
theorem dX1_push_10 : decode cX1_push 10 = .ok (.ifnull 34, 3) := by decide +kernel
theorem dX1_push_13 : decode cX1_push 13 = .ok (.aload_n 2, 1) := by decide +kernel
theorem dX1_push_14 : decode cX1_push 14 = .ok (.aload_n 1, 1) := by decide +kernel
theorem dX1_push_15 : decode cX1_push 15 = .ok (.invokevirtual 27, 3) := by decide +kernel
theorem dX1_push_18 : decode cX1_push 18 = .ok (.aload_n 0, 1) := by decide +kernel
theorem dX1_push_19 : decode cX1_push 19 = .ok (.aload_n 0, 1) := by decide +kernel
theorem dX1_push_20 : decode cX1_push 20 = .ok (.getfield 20, 3) := by decide +kernel
theorem dX1_push_23 : decode cX1_push 23 = .ok (.iconst 1, 1) := by decide +kernel
theorem dX1_push_24 : decode cX1_push 24 = .ok (.iadd, 1) := by decide +kernel
theorem dX1_push_25 : decode cX1_push 25 = .ok (.iconst 4, 1) := by decide +kernel
theorem dX1_push_26 : decode cX1_push 26 = .ok (.irem, 1) := by decide +kernel
theorem dX1_push_27 : decode cX1_push 27 = .ok (.putfield 20, 3) := by decide +kernel
theorem dX1_push_30 : decode cX1_push 30 = .ok (.aload_n 0, 1) := by decide +kernel
theorem dX1_push_31 : decode cX1_push 31 = .ok (.aload_n 0, 1) := by decide +kernel
theorem dX1_push_32 : decode cX1_push 32 = .ok (.getfield 16, 3) := by decide +kernel
theorem dX1_push_35 : decode cX1_push 35 = .ok (.iconst 1, 1) := by decide +kernel
theorem dX1_push_36 : decode cX1_push 36 = .ok (.iadd, 1) := by decide +kernel
theorem dX1_push_37 : decode cX1_push 37 = .ok (.iconst 4, 1) := by decide +kernel
theorem dX1_push_38 : decode cX1_push 38 = .ok (.invokestatic 31, 3) := by decide +kernel
theorem dX1_push_41 : decode cX1_push 41 = .ok (.putfield 16, 3) := by decide +kernel
theorem dX1_push_44 : decode cX1_push 44 = .ok (.return_, 1) := by decide +kernel
theorem dX1_popInto_0 : decode cX1_popInto 0 = .ok (.aload_n 0, 1) := by decide +kernel
theorem dX1_popInto_1 : decode cX1_popInto 1 = .ok (.getfield 20, 3) := by decide +kernel
theorem dX1_popInto_4 : decode cX1_popInto 4 = .ok (.iconst 4, 1) := by decide +kernel
theorem dX1_popInto_5 : decode cX1_popInto 5 = .ok (.iadd, 1) := by decide +kernel
theorem dX1_popInto_6 : decode cX1_popInto 6 = .ok (.iconst 1, 1) := by decide +kernel
theorem dX1_popInto_7 : decode cX1_popInto 7 = .ok (.isub, 1) := by decide +kernel
theorem dX1_popInto_8 : decode cX1_popInto 8 = .ok (.iconst 4, 1) := by decide +kernel
theorem dX1_popInto_9 : decode cX1_popInto 9 = .ok (.irem, 1) := by decide +kernel
theorem dX1_popInto_10 : decode cX1_popInto 10 = .ok (.istore_n 2, 1) := by decide +kernel
theorem dX1_popInto_11 : decode cX1_popInto 11 = .ok (.aload_n 0, 1) := by decide +kernel
theorem dX1_popInto_12 : decode cX1_popInto 12 = .ok (.iload_n 2, 1) := by decide +kernel
theorem dX1_popInto_13 : decode cX1_popInto 13 = .ok (.invokevirtual 23, 3) := by decide +kernel
theorem dX1_popInto_16 : decode cX1_popInto 16 = .ok (.astore_n 3, 1) := by decide +kernel
theorem dX1_popInto_17 : decode cX1_popInto 17 = .ok (.aload_n 0, 1) := by decide +kernel
theorem dX1_popInto_18 : decode cX1_popInto 18 = .ok (.getfield 16, 3) := by decide +kernel
theorem dX1_popInto_21 : decode cX1_popInto 21 = .ok (.ifCond .le 27, 3) := by decide +kernel
theorem dX1_popInto_24 : decode cX1_popInto 24 = .ok (.aload_n 3, 1) := by decide +kernel
theorem dX1_popInto_25 : decode cX1_popInto 25 = .ok (.ifnull 23, 3) := by decide +kernel
theorem dX1_popInto_28 : decode cX1_popInto 28 = .ok (.aload_n 1, 1) := by decide +kernel
theorem dX1_popInto_29 : decode cX1_popInto 29 = .ok (.aload_n 3, 1) := by decide +kernel
theorem dX1_popInto_30 : decode cX1_popInto 30 = .ok (.invokevirtual 27, 3) := by decide +kernel
theorem dX1_popInto_33 : decode cX1_popInto 33 = .ok (.aload_n 0, 1) := by decide +kernel
theorem dX1_popInto_34 : decode cX1_popInto 34 = .ok (.iload_n 2, 1) := by decide +kernel
theorem dX1_popInto_35 : decode cX1_popInto 35 = .ok (.putfield 20, 3) := by decide +kernel
theorem dX1_popInto_38 : decode cX1_popInto 38 = .ok (.aload_n 0, 1) := by decide +kernel
theorem dX1_popInto_39 : decode cX1_popInto 39 = .ok (.dup, 1) := by decide +kernel
theorem dX1_popInto_40 : decode cX1_popInto 40 = .ok (.getfield 16, 3) := by decide +kernel
theorem dX1_popInto_43 : decode cX1_popInto 43 = .ok (.iconst 1, 1) := by decide +kernel
theorem dX1_popInto_44 : decode cX1_popInto 44 = .ok (.isub, 1) := by decide +kernel
theorem dX1_popInto_45 : decode cX1_popInto 45 = .ok (.putfield 16, 3) := by decide +kernel
theorem dX1_popInto_48 : decode cX1_popInto 48 = .ok (.return_, 1) := by decide +kernel
theorem dX1_place_0 : decode cX1_place 0 = .ok (.iload_n 1, 1) := by decide +kernel
theorem dX1_place_1 : decode cX1_place 1 = .ok (.ifCond .lt 17, 3) := by decide +kernel
theorem dX1_place_4 : decode cX1_place 4 = .ok (.iload_n 1, 1) := by decide +kernel
theorem dX1_place_5 : decode cX1_place 5 = .ok (.iconst 4, 1) := by decide +kernel
theorem dX1_place_6 : decode cX1_place 6 = .ok (.if_icmp .ge 12, 3) := by decide +kernel
theorem dX1_place_9 : decode cX1_place 9 = .ok (.aload_n 0, 1) := by decide +kernel
theorem dX1_place_10 : decode cX1_place 10 = .ok (.getfield 11, 3) := by decide +kernel
theorem dX1_place_13 : decode cX1_place 13 = .ok (.iload_n 1, 1) := by decide +kernel
theorem dX1_place_14 : decode cX1_place 14 = .ok (.aaload, 1) := by decide +kernel
theorem dX1_place_15 : decode cX1_place 15 = .ok (.goto 4, 3) := by decide +kernel
theorem dX1_place_18 : decode cX1_place 18 = .ok (.aconst_null, 1) := by decide +kernel
theorem dX1_place_19 : decode cX1_place 19 = .ok (.areturn, 1) := by decide +kernel
theorem dX2_init_0 : decode cX2_init 0 = .ok (.aload_n 0, 1) := by decide +kernel
theorem dX2_init_1 : decode cX2_init 1 = .ok (.invokespecial 5, 3) := by decide +kernel
theorem dX2_init_4 : decode cX2_init 4 = .ok (.aload_n 0, 1) := by decide +kernel
theorem dX2_init_5 : decode cX2_init 5 = .ok (.sipush 200, 3) := by decide +kernel
theorem dX2_init_8 : decode cX2_init 8 = .ok (.newarray .int, 2) := by decide +kernel
theorem dX2_init_10 : decode cX2_init 10 = .ok (.putfield 11, 3) := by decide +kernel
theorem dX2_init_13 : decode cX2_init 13 = .ok (.return_, 1) := by decide +kernel
theorem dX2_size_0 : decode cX2_size 0 = .ok (.aload_n 0, 1) := by decide +kernel
theorem dX2_size_1 : decode cX2_size 1 = .ok (.getfield 15, 3) := by decide +kernel
theorem dX2_size_4 : decode cX2_size 4 = .ok (.ireturn, 1) := by decide +kernel
theorem dX2_at_0 : decode cX2_at 0 = .ok (.iload_n 1, 1) := by decide +kernel
theorem dX2_at_1 : decode cX2_at 1 = .ok (.ifCond .lt 27, 3) := by decide +kernel
theorem dX2_at_4 : decode cX2_at 4 = .ok (.iload_n 1, 1) := by decide +kernel
theorem dX2_at_5 : decode cX2_at 5 = .ok (.aload_n 0, 1) := by decide +kernel
theorem dX2_at_6 : decode cX2_at 6 = .ok (.getfield 15, 3) := by decide +kernel
theorem dX2_at_9 : decode cX2_at 9 = .ok (.if_icmp .ge 19, 3) := by decide +kernel
theorem dX2_at_12 : decode cX2_at 12 = .ok (.iload_n 1, 1) := by decide +kernel
theorem dX2_at_13 : decode cX2_at 13 = .ok (.sipush 200, 3) := by decide +kernel
theorem dX2_at_16 : decode cX2_at 16 = .ok (.if_icmp .ge 12, 3) := by decide +kernel
theorem dX2_at_19 : decode cX2_at 19 = .ok (.aload_n 0, 1) := by decide +kernel
theorem dX2_at_20 : decode cX2_at 20 = .ok (.getfield 11, 3) := by decide +kernel
theorem dX2_at_23 : decode cX2_at 23 = .ok (.iload_n 1, 1) := by decide +kernel
theorem dX2_at_24 : decode cX2_at 24 = .ok (.iaload, 1) := by decide +kernel
theorem dX2_at_25 : decode cX2_at 25 = .ok (.goto 4, 3) := by decide +kernel
theorem dX2_at_28 : decode cX2_at 28 = .ok (.iconst 0, 1) := by decide +kernel
theorem dX2_at_29 : decode cX2_at 29 = .ok (.ireturn, 1) := by decide +kernel
theorem dX2_unroll_0 : decode cX2_unroll 0 = .ok (.aload_n 0, 1) := by decide +kernel
theorem dX2_unroll_1 : decode cX2_unroll 1 = .ok (.iconst 0, 1) := by decide +kernel
theorem dX2_unroll_2 : decode cX2_unroll 2 = .ok (.putfield 15, 3) := by decide +kernel
theorem dX2_unroll_5 : decode cX2_unroll 5 = .ok (.iconst 0, 1) := by decide +kernel
theorem dX2_unroll_6 : decode cX2_unroll 6 = .ok (.istore_n 2, 1) := by decide +kernel
theorem dX2_unroll_7 : decode cX2_unroll 7 = .ok (.iconst 1, 1) := by decide +kernel
theorem dX2_unroll_8 : decode cX2_unroll 8 = .ok (.istore_n 3, 1) := by decide +kernel
theorem dX2_unroll_9 : decode cX2_unroll 9 = .ok (.iconst 0, 1) := by decide +kernel
theorem dX2_unroll_10 : decode cX2_unroll 10 = .ok (.istore 4, 2) := by decide +kernel
theorem dX2_unroll_12 : decode cX2_unroll 12 = .ok (.iconst 0, 1) := by decide +kernel
theorem dX2_unroll_13 : decode cX2_unroll 13 = .ok (.istore 5, 2) := by decide +kernel
theorem dX2_unroll_15 : decode cX2_unroll 15 = .ok (.iconst 0, 1) := by decide +kernel
theorem dX2_unroll_16 : decode cX2_unroll 16 = .ok (.istore 6, 2) := by decide +kernel
theorem dX2_unroll_18 : decode cX2_unroll 18 = .ok (.iload 6, 2) := by decide +kernel
theorem dX2_unroll_20 : decode cX2_unroll 20 = .ok (.sipush 3417, 3) := by decide +kernel
theorem dX2_unroll_23 : decode cX2_unroll 23 = .ok (.if_icmp .ge 164, 3) := by decide +kernel
theorem dX2_unroll_26 : decode cX2_unroll 26 = .ok (.iload 4, 2) := by decide +kernel
theorem dX2_unroll_28 : decode cX2_unroll 28 = .ok (.aload_n 1, 1) := by decide +kernel
theorem dX2_unroll_29 : decode cX2_unroll 29 = .ok (.invokevirtual 19, 3) := by decide +kernel
theorem dX2_unroll_32 : decode cX2_unroll 32 = .ok (.if_icmp .ge 155, 3) := by decide +kernel
theorem dX2_unroll_35 : decode cX2_unroll 35 = .ok (.aload_n 0, 1) := by decide +kernel
theorem dX2_unroll_36 : decode cX2_unroll 36 = .ok (.getfield 15, 3) := by decide +kernel
theorem dX2_unroll_39 : decode cX2_unroll 39 = .ok (.sipush 200, 3) := by decide +kernel
theorem dX2_unroll_42 : decode cX2_unroll 42 = .ok (.if_icmp .ge 145, 3) := by decide +kernel
theorem dX2_unroll_45 : decode cX2_unroll 45 = .ok (.iload 5, 2) := by decide +kernel
theorem dX2_unroll_47 : decode cX2_unroll 47 = .ok (.ifCond .ne 17, 3) := by decide +kernel
theorem dX2_unroll_50 : decode cX2_unroll 50 = .ok (.aload_n 1, 1) := by decide +kernel
theorem dX2_unroll_51 : decode cX2_unroll 51 = .ok (.iload 4, 2) := by decide +kernel
theorem dX2_unroll_53 : decode cX2_unroll 53 = .ok (.invokestatic 22, 3) := by decide +kernel
theorem dX2_unroll_56 : decode cX2_unroll 56 = .ok (.ifCond .eq 8, 3) := by decide +kernel
theorem dX2_unroll_59 : decode cX2_unroll 59 = .ok (.iload 4, 2) := by decide +kernel
theorem dX2_unroll_61 : decode cX2_unroll 61 = .ok (.istore_n 2, 1) := by decide +kernel
theorem dX2_unroll_62 : decode cX2_unroll 62 = .ok (.iconst 1, 1) := by decide +kernel
theorem dX2_unroll_63 : decode cX2_unroll 63 = .ok (.istore_n 3, 1) := by decide +kernel
theorem dX2_unroll_64 : decode cX2_unroll 64 = .ok (.aload_n 1, 1) := by decide +kernel
theorem dX2_unroll_65 : decode cX2_unroll 65 = .ok (.iload 4, 2) := by decide +kernel
theorem dX2_unroll_67 : decode cX2_unroll 67 = .ok (.bipush 6, 2) := by decide +kernel
theorem dX2_unroll_69 : decode cX2_unroll 69 = .ok (.invokevirtual 26, 3) := by decide +kernel
theorem dX2_unroll_72 : decode cX2_unroll 72 = .ok (.istore 7, 2) := by decide +kernel
theorem dX2_unroll_74 : decode cX2_unroll 74 = .ok (.iload 7, 2) := by decide +kernel
theorem dX2_unroll_76 : decode cX2_unroll 76 = .ok (.ifCond .eq 13, 3) := by decide +kernel
theorem dX2_unroll_79 : decode cX2_unroll 79 = .ok (.iload 7, 2) := by decide +kernel
theorem dX2_unroll_81 : decode cX2_unroll 81 = .ok (.iload_n 3, 1) := by decide +kernel
theorem dX2_unroll_82 : decode cX2_unroll 82 = .ok (.if_icmp .eq 7, 3) := by decide +kernel
theorem dX2_unroll_85 : decode cX2_unroll 85 = .ok (.iconst 1, 1) := by decide +kernel
theorem dX2_unroll_86 : decode cX2_unroll 86 = .ok (.goto 4, 3) := by decide +kernel
theorem dX2_unroll_89 : decode cX2_unroll 89 = .ok (.iconst 0, 1) := by decide +kernel
theorem dX2_unroll_90 : decode cX2_unroll 90 = .ok (.istore 8, 2) := by decide +kernel
theorem dX2_unroll_92 : decode cX2_unroll 92 = .ok (.iload 8, 2) := by decide +kernel
theorem dX2_unroll_94 : decode cX2_unroll 94 = .ok (.ifCond .eq 7, 3) := by decide +kernel
theorem dX2_unroll_97 : decode cX2_unroll 97 = .ok (.iconst 0, 1) := by decide +kernel
theorem dX2_unroll_98 : decode cX2_unroll 98 = .ok (.goto 10, 3) := by decide +kernel
theorem dX2_unroll_101 : decode cX2_unroll 101 = .ok (.aload_n 1, 1) := by decide +kernel
theorem dX2_unroll_102 : decode cX2_unroll 102 = .ok (.iload 4, 2) := by decide +kernel
theorem dX2_unroll_104 : decode cX2_unroll 104 = .ok (.iconst 5, 1) := by decide +kernel
theorem dX2_unroll_105 : decode cX2_unroll 105 = .ok (.invokevirtual 26, 3) := by decide +kernel
theorem dX2_unroll_108 : decode cX2_unroll 108 = .ok (.istore 9, 2) := by decide +kernel
theorem dX2_unroll_110 : decode cX2_unroll 110 = .ok (.iload 8, 2) := by decide +kernel
theorem dX2_unroll_112 : decode cX2_unroll 112 = .ok (.ifCond .ne 24, 3) := by decide +kernel
theorem dX2_unroll_115 : decode cX2_unroll 115 = .ok (.aload_n 0, 1) := by decide +kernel
theorem dX2_unroll_116 : decode cX2_unroll 116 = .ok (.getfield 11, 3) := by decide +kernel
theorem dX2_unroll_119 : decode cX2_unroll 119 = .ok (.aload_n 0, 1) := by decide +kernel
theorem dX2_unroll_120 : decode cX2_unroll 120 = .ok (.getfield 15, 3) := by decide +kernel
theorem dX2_unroll_123 : decode cX2_unroll 123 = .ok (.iload 4, 2) := by decide +kernel
theorem dX2_unroll_125 : decode cX2_unroll 125 = .ok (.iastore, 1) := by decide +kernel
theorem dX2_unroll_126 : decode cX2_unroll 126 = .ok (.aload_n 0, 1) := by decide +kernel
theorem dX2_unroll_127 : decode cX2_unroll 127 = .ok (.dup, 1) := by decide +kernel
theorem dX2_unroll_128 : decode cX2_unroll 128 = .ok (.getfield 15, 3) := by decide +kernel
theorem dX2_unroll_131 : decode cX2_unroll 131 = .ok (.iconst 1, 1) := by decide +kernel
theorem dX2_unroll_132 : decode cX2_unroll 132 = .ok (.iadd, 1) := by decide +kernel
theorem dX2_unroll_133 : decode cX2_unroll 133 = .ok (.putfield 15, 3) := by decide +kernel
theorem dX2_unroll_136 : decode cX2_unroll 136 = .ok (.iload 9, 2) := by decide +kernel
theorem dX2_unroll_138 : decode cX2_unroll 138 = .ok (.ifCond .eq 13, 3) := by decide +kernel
theorem dX2_unroll_141 : decode cX2_unroll 141 = .ok (.iload_n 3, 1) := by decide +kernel
theorem dX2_unroll_142 : decode cX2_unroll 142 = .ok (.iload 9, 2) := by decide +kernel
theorem dX2_unroll_144 : decode cX2_unroll 144 = .ok (.if_icmp .ge 7, 3) := by decide +kernel
theorem dX2_unroll_147 : decode cX2_unroll 147 = .ok (.iconst 1, 1) := by decide +kernel
theorem dX2_unroll_148 : decode cX2_unroll 148 = .ok (.goto 4, 3) := by decide +kernel
theorem dX2_unroll_151 : decode cX2_unroll 151 = .ok (.iconst 0, 1) := by decide +kernel
theorem dX2_unroll_152 : decode cX2_unroll 152 = .ok (.istore 5, 2) := by decide +kernel
theorem dX2_unroll_154 : decode cX2_unroll 154 = .ok (.iload 5, 2) := by decide +kernel
theorem dX2_unroll_156 : decode cX2_unroll 156 = .ok (.ifCond .eq 12, 3) := by decide +kernel
theorem dX2_unroll_159 : decode cX2_unroll 159 = .ok (.iinc 3 1, 3) := by decide +kernel
theorem dX2_unroll_162 : decode cX2_unroll 162 = .ok (.iload_n 2, 1) := by decide +kernel
theorem dX2_unroll_163 : decode cX2_unroll 163 = .ok (.istore 4, 2) := by decide +kernel
theorem dX2_unroll_165 : decode cX2_unroll 165 = .ok (.goto 16, 3) := by decide +kernel
theorem dX2_unroll_168 : decode cX2_unroll 168 = .ok (.iinc 4 1, 3) := by decide +kernel
theorem dX2_unroll_171 : decode cX2_unroll 171 = .ok (.iload 9, 2) := by decide +kernel
theorem dX2_unroll_173 : decode cX2_unroll 173 = .ok (.ifCond .eq 8, 3) := by decide +kernel
theorem dX2_unroll_176 : decode cX2_unroll 176 = .ok (.iconst 1, 1) := by decide +kernel
theorem dX2_unroll_177 : decode cX2_unroll 177 = .ok (.istore_n 3, 1) := by decide +kernel
theorem dX2_unroll_178 : decode cX2_unroll 178 = .ok (.iload 4, 2) := by decide +kernel
theorem dX2_unroll_180 : decode cX2_unroll 180 = .ok (.istore_n 2, 1) := by decide +kernel
theorem dX2_unroll_181 : decode cX2_unroll 181 = .ok (.iinc 6 1, 3) := by decide +kernel
theorem dX2_unroll_184 : decode cX2_unroll 184 = .ok (.goto (-166), 3) := by decide +kernel
theorem dX2_unroll_187 : decode cX2_unroll 187 = .ok (.return_, 1) := by decide +kernel
theorem dX2_beginsAnew_0 : decode cX2_beginsAnew 0 = .ok (.aload_n 0, 1) := by decide +kernel
theorem dX2_beginsAnew_1 : decode cX2_beginsAnew 1 = .ok (.iload_n 1, 1) := by decide +kernel
theorem dX2_beginsAnew_2 : decode cX2_beginsAnew 2 = .ok (.iconst 4, 1) := by decide +kernel
theorem dX2_beginsAnew_3 : decode cX2_beginsAnew 3 = .ok (.invokevirtual 26, 3) := by decide +kernel
theorem dX2_beginsAnew_6 : decode cX2_beginsAnew 6 = .ok (.iconst 1, 1) := by decide +kernel
theorem dX2_beginsAnew_7 : decode cX2_beginsAnew 7 = .ok (.if_icmp .eq 25, 3) := by decide +kernel
theorem dX2_beginsAnew_10 : decode cX2_beginsAnew 10 = .ok (.aload_n 0, 1) := by decide +kernel
theorem dX2_beginsAnew_11 : decode cX2_beginsAnew 11 = .ok (.iload_n 1, 1) := by decide +kernel
theorem dX2_beginsAnew_12 : decode cX2_beginsAnew 12 = .ok (.bipush 6, 2) := by decide +kernel
theorem dX2_beginsAnew_14 : decode cX2_beginsAnew 14 = .ok (.invokevirtual 26, 3) := by decide +kernel
theorem dX2_beginsAnew_17 : decode cX2_beginsAnew 17 = .ok (.ifCond .ne 19, 3) := by decide +kernel
theorem dX2_beginsAnew_20 : decode cX2_beginsAnew 20 = .ok (.aload_n 0, 1) := by decide +kernel
theorem dX2_beginsAnew_21 : decode cX2_beginsAnew 21 = .ok (.iload_n 1, 1) := by decide +kernel
theorem dX2_beginsAnew_22 : decode cX2_beginsAnew 22 = .ok (.iconst 1, 1) := by decide +kernel
theorem dX2_beginsAnew_23 : decode cX2_beginsAnew 23 = .ok (.isub, 1) := by decide +kernel
theorem dX2_beginsAnew_24 : decode cX2_beginsAnew 24 = .ok (.bipush 6, 2) := by decide +kernel
theorem dX2_beginsAnew_26 : decode cX2_beginsAnew 26 = .ok (.invokevirtual 26, 3) := by decide +kernel
theorem dX2_beginsAnew_29 : decode cX2_beginsAnew 29 = .ok (.ifCond .eq 7, 3) := by decide +kernel
theorem dX2_beginsAnew_32 : decode cX2_beginsAnew 32 = .ok (.iconst 1, 1) := by decide +kernel
theorem dX2_beginsAnew_33 : decode cX2_beginsAnew 33 = .ok (.goto 4, 3) := by decide +kernel
theorem dX2_beginsAnew_36 : decode cX2_beginsAnew 36 = .ok (.iconst 0, 1) := by decide +kernel
theorem dX2_beginsAnew_37 : decode cX2_beginsAnew 37 = .ok (.ireturn, 1) := by decide +kernel
theorem dX2_ticks_0 : decode cX2_ticks 0 = .ok (.iconst 0, 1) := by decide +kernel
theorem dX2_ticks_1 : decode cX2_ticks 1 = .ok (.istore_n 2, 1) := by decide +kernel
theorem dX2_ticks_2 : decode cX2_ticks 2 = .ok (.iconst 0, 1) := by decide +kernel
theorem dX2_ticks_3 : decode cX2_ticks 3 = .ok (.istore_n 3, 1) := by decide +kernel
theorem dX2_ticks_4 : decode cX2_ticks 4 = .ok (.iload_n 3, 1) := by decide +kernel
theorem dX2_ticks_5 : decode cX2_ticks 5 = .ok (.aload_n 0, 1) := by decide +kernel
theorem dX2_ticks_6 : decode cX2_ticks 6 = .ok (.getfield 15, 3) := by decide +kernel
theorem dX2_ticks_9 : decode cX2_ticks 9 = .ok (.if_icmp .ge 21, 3) := by decide +kernel
theorem dX2_ticks_12 : decode cX2_ticks 12 = .ok (.iload_n 2, 1) := by decide +kernel
theorem dX2_ticks_13 : decode cX2_ticks 13 = .ok (.aload_n 1, 1) := by decide +kernel
theorem dX2_ticks_14 : decode cX2_ticks 14 = .ok (.aload_n 0, 1) := by decide +kernel
theorem dX2_ticks_15 : decode cX2_ticks 15 = .ok (.iload_n 3, 1) := by decide +kernel
theorem dX2_ticks_16 : decode cX2_ticks 16 = .ok (.invokevirtual 30, 3) := by decide +kernel
theorem dX2_ticks_19 : decode cX2_ticks 19 = .ok (.invokevirtual 34, 3) := by decide +kernel
theorem dX2_ticks_22 : decode cX2_ticks 22 = .ok (.iadd, 1) := by decide +kernel
theorem dX2_ticks_23 : decode cX2_ticks 23 = .ok (.istore_n 2, 1) := by decide +kernel
theorem dX2_ticks_24 : decode cX2_ticks 24 = .ok (.iinc 3 1, 3) := by decide +kernel
theorem dX2_ticks_27 : decode cX2_ticks 27 = .ok (.goto (-23), 3) := by decide +kernel
theorem dX2_ticks_30 : decode cX2_ticks 30 = .ok (.iload_n 2, 1) := by decide +kernel
theorem dX2_ticks_31 : decode cX2_ticks 31 = .ok (.ireturn, 1) := by decide +kernel
theorem dX2_timesOf_0 : decode cX2_timesOf 0 = .ok (.iconst 0, 1) := by decide +kernel
theorem dX2_timesOf_1 : decode cX2_timesOf 1 = .ok (.istore_n 2, 1) := by decide +kernel
theorem dX2_timesOf_2 : decode cX2_timesOf 2 = .ok (.iconst 0, 1) := by decide +kernel
theorem dX2_timesOf_3 : decode cX2_timesOf 3 = .ok (.istore_n 3, 1) := by decide +kernel
theorem dX2_timesOf_4 : decode cX2_timesOf 4 = .ok (.iload_n 3, 1) := by decide +kernel
theorem dX2_timesOf_5 : decode cX2_timesOf 5 = .ok (.aload_n 0, 1) := by decide +kernel
theorem dX2_timesOf_6 : decode cX2_timesOf 6 = .ok (.getfield 15, 3) := by decide +kernel
theorem dX2_timesOf_9 : decode cX2_timesOf 9 = .ok (.if_icmp .ge 26, 3) := by decide +kernel
theorem dX2_timesOf_12 : decode cX2_timesOf 12 = .ok (.iload_n 2, 1) := by decide +kernel
theorem dX2_timesOf_13 : decode cX2_timesOf 13 = .ok (.aload_n 0, 1) := by decide +kernel
theorem dX2_timesOf_14 : decode cX2_timesOf 14 = .ok (.iload_n 3, 1) := by decide +kernel
theorem dX2_timesOf_15 : decode cX2_timesOf 15 = .ok (.invokevirtual 30, 3) := by decide +kernel
theorem dX2_timesOf_18 : decode cX2_timesOf 18 = .ok (.iload_n 1, 1) := by decide +kernel
theorem dX2_timesOf_19 : decode cX2_timesOf 19 = .ok (.if_icmp .ne 7, 3) := by decide +kernel
theorem dX2_timesOf_22 : decode cX2_timesOf 22 = .ok (.iconst 1, 1) := by decide +kernel
theorem dX2_timesOf_23 : decode cX2_timesOf 23 = .ok (.goto 4, 3) := by decide +kernel
theorem dX2_timesOf_26 : decode cX2_timesOf 26 = .ok (.iconst 0, 1) := by decide +kernel
theorem dX2_timesOf_27 : decode cX2_timesOf 27 = .ok (.iadd, 1) := by decide +kernel
theorem dX2_timesOf_28 : decode cX2_timesOf 28 = .ok (.istore_n 2, 1) := by decide +kernel
theorem dX2_timesOf_29 : decode cX2_timesOf 29 = .ok (.iinc 3 1, 3) := by decide +kernel
theorem dX2_timesOf_32 : decode cX2_timesOf 32 = .ok (.goto (-28), 3) := by decide +kernel
theorem dX2_timesOf_35 : decode cX2_timesOf 35 = .ok (.iload_n 2, 1) := by decide +kernel
theorem dX2_timesOf_36 : decode cX2_timesOf 36 = .ok (.ireturn, 1) := by decide +kernel
theorem dX2_secondsUpTo_0 : decode cX2_secondsUpTo 0 = .ok (.fconst 0, 1) := by decide +kernel
theorem dX2_secondsUpTo_1 : decode cX2_secondsUpTo 1 = .ok (.fstore_n 3, 1) := by decide +kernel
theorem dX2_secondsUpTo_2 : decode cX2_secondsUpTo 2 = .ok (.iconst 0, 1) := by decide +kernel
theorem dX2_secondsUpTo_3 : decode cX2_secondsUpTo 3 = .ok (.istore 4, 2) := by decide +kernel
theorem dX2_secondsUpTo_5 : decode cX2_secondsUpTo 5 = .ok (.iload 4, 2) := by decide +kernel
theorem dX2_secondsUpTo_7 : decode cX2_secondsUpTo 7 = .ok (.iload_n 2, 1) := by decide +kernel
theorem dX2_secondsUpTo_8 : decode cX2_secondsUpTo 8 = .ok (.if_icmp .ge 28, 3) := by decide +kernel
theorem dX2_secondsUpTo_11 : decode cX2_secondsUpTo 11 = .ok (.iload 4, 2) := by decide +kernel
theorem dX2_secondsUpTo_13 : decode cX2_secondsUpTo 13 = .ok (.aload_n 0, 1) := by decide +kernel
theorem dX2_secondsUpTo_14 : decode cX2_secondsUpTo 14 = .ok (.getfield 15, 3) := by decide +kernel
theorem dX2_secondsUpTo_17 : decode cX2_secondsUpTo 17 = .ok (.if_icmp .ge 19, 3) := by decide +kernel
theorem dX2_secondsUpTo_20 : decode cX2_secondsUpTo 20 = .ok (.fload_n 3, 1) := by decide +kernel
theorem dX2_secondsUpTo_21 : decode cX2_secondsUpTo 21 = .ok (.aload_n 0, 1) := by decide +kernel
theorem dX2_secondsUpTo_22 : decode cX2_secondsUpTo 22 = .ok (.aload_n 1, 1) := by decide +kernel
theorem dX2_secondsUpTo_23 : decode cX2_secondsUpTo 23 = .ok (.iload 4, 2) := by decide +kernel
theorem dX2_secondsUpTo_25 : decode cX2_secondsUpTo 25 = .ok (.invokevirtual 37, 3) := by decide +kernel
theorem dX2_secondsUpTo_28 : decode cX2_secondsUpTo 28 = .ok (.fadd, 1) := by decide +kernel
theorem dX2_secondsUpTo_29 : decode cX2_secondsUpTo 29 = .ok (.fstore_n 3, 1) := by decide +kernel
theorem dX2_secondsUpTo_30 : decode cX2_secondsUpTo 30 = .ok (.iinc 4 1, 3) := by decide +kernel
theorem dX2_secondsUpTo_33 : decode cX2_secondsUpTo 33 = .ok (.goto (-28), 3) := by decide +kernel
theorem dX2_secondsUpTo_36 : decode cX2_secondsUpTo 36 = .ok (.fload_n 3, 1) := by decide +kernel
theorem dX2_secondsUpTo_37 : decode cX2_secondsUpTo 37 = .ok (.freturn, 1) := by decide +kernel
theorem dX2_placesBegunBy_0 : decode cX2_placesBegunBy 0 = .ok (.iconst 0, 1) := by decide +kernel
theorem dX2_placesBegunBy_1 : decode cX2_placesBegunBy 1 = .ok (.istore_n 3, 1) := by decide +kernel
theorem dX2_placesBegunBy_2 : decode cX2_placesBegunBy 2 = .ok (.fconst 0, 1) := by decide +kernel
theorem dX2_placesBegunBy_3 : decode cX2_placesBegunBy 3 = .ok (.fstore 4, 2) := by decide +kernel
theorem dX2_placesBegunBy_5 : decode cX2_placesBegunBy 5 = .ok (.iconst 0, 1) := by decide +kernel
theorem dX2_placesBegunBy_6 : decode cX2_placesBegunBy 6 = .ok (.istore 5, 2) := by decide +kernel
theorem dX2_placesBegunBy_8 : decode cX2_placesBegunBy 8 = .ok (.iload 5, 2) := by decide +kernel
theorem dX2_placesBegunBy_10 : decode cX2_placesBegunBy 10 = .ok (.aload_n 0, 1) := by decide +kernel
theorem dX2_placesBegunBy_11 : decode cX2_placesBegunBy 11 = .ok (.getfield 15, 3) := by decide +kernel
theorem dX2_placesBegunBy_14 : decode cX2_placesBegunBy 14 = .ok (.if_icmp .gt 44, 3) := by decide +kernel
theorem dX2_placesBegunBy_17 : decode cX2_placesBegunBy 17 = .ok (.fload 4, 2) := by decide +kernel
theorem dX2_placesBegunBy_19 : decode cX2_placesBegunBy 19 = .ok (.fload_n 2, 1) := by decide +kernel
theorem dX2_placesBegunBy_20 : decode cX2_placesBegunBy 20 = .ok (.fcmp .g, 1) := by decide +kernel
theorem dX2_placesBegunBy_21 : decode cX2_placesBegunBy 21 = .ok (.ifCond .gt 37, 3) := by decide +kernel
theorem dX2_placesBegunBy_24 : decode cX2_placesBegunBy 24 = .ok (.iinc 3 1, 3) := by decide +kernel
theorem dX2_placesBegunBy_27 : decode cX2_placesBegunBy 27 = .ok (.fload 4, 2) := by decide +kernel
theorem dX2_placesBegunBy_29 : decode cX2_placesBegunBy 29 = .ok (.iload 5, 2) := by decide +kernel
theorem dX2_placesBegunBy_31 : decode cX2_placesBegunBy 31 = .ok (.aload_n 0, 1) := by decide +kernel
theorem dX2_placesBegunBy_32 : decode cX2_placesBegunBy 32 = .ok (.getfield 15, 3) := by decide +kernel
theorem dX2_placesBegunBy_35 : decode cX2_placesBegunBy 35 = .ok (.if_icmp .ge 13, 3) := by decide +kernel
theorem dX2_placesBegunBy_38 : decode cX2_placesBegunBy 38 = .ok (.aload_n 0, 1) := by decide +kernel
theorem dX2_placesBegunBy_39 : decode cX2_placesBegunBy 39 = .ok (.aload_n 1, 1) := by decide +kernel
theorem dX2_placesBegunBy_40 : decode cX2_placesBegunBy 40 = .ok (.iload 5, 2) := by decide +kernel
theorem dX2_placesBegunBy_42 : decode cX2_placesBegunBy 42 = .ok (.invokevirtual 37, 3) := by decide +kernel
theorem dX2_placesBegunBy_45 : decode cX2_placesBegunBy 45 = .ok (.goto 4, 3) := by decide +kernel
theorem dX2_placesBegunBy_48 : decode cX2_placesBegunBy 48 = .ok (.fconst 0, 1) := by decide +kernel
theorem dX2_placesBegunBy_49 : decode cX2_placesBegunBy 49 = .ok (.fadd, 1) := by decide +kernel
theorem dX2_placesBegunBy_50 : decode cX2_placesBegunBy 50 = .ok (.fstore 4, 2) := by decide +kernel
theorem dX2_placesBegunBy_52 : decode cX2_placesBegunBy 52 = .ok (.iinc 5 1, 3) := by decide +kernel
theorem dX2_placesBegunBy_55 : decode cX2_placesBegunBy 55 = .ok (.goto (-47), 3) := by decide +kernel
theorem dX2_placesBegunBy_58 : decode cX2_placesBegunBy 58 = .ok (.iload_n 3, 1) := by decide +kernel
theorem dX2_placesBegunBy_59 : decode cX2_placesBegunBy 59 = .ok (.ireturn, 1) := by decide +kernel
theorem dX2_secondsOf_0 : decode cX2_secondsOf 0 = .ok (.aload_n 0, 1) := by decide +kernel
theorem dX2_secondsOf_1 : decode cX2_secondsOf 1 = .ok (.iload_n 2, 1) := by decide +kernel
theorem dX2_secondsOf_2 : decode cX2_secondsOf 2 = .ok (.invokevirtual 30, 3) := by decide +kernel
theorem dX2_secondsOf_5 : decode cX2_secondsOf 5 = .ok (.istore_n 3, 1) := by decide +kernel
theorem dX2_secondsOf_6 : decode cX2_secondsOf 6 = .ok (.aload_n 1, 1) := by decide +kernel
theorem dX2_secondsOf_7 : decode cX2_secondsOf 7 = .ok (.iload_n 3, 1) := by decide +kernel
theorem dX2_secondsOf_8 : decode cX2_secondsOf 8 = .ok (.iconst 3, 1) := by decide +kernel
theorem dX2_secondsOf_9 : decode cX2_secondsOf 9 = .ok (.invokevirtual 26, 3) := by decide +kernel
theorem dX2_secondsOf_12 : decode cX2_secondsOf 12 = .ok (.i2f, 1) := by decide +kernel
theorem dX2_secondsOf_13 : decode cX2_secondsOf 13 = .ok (.fstore 4, 2) := by decide +kernel
theorem dX2_secondsOf_15 : decode cX2_secondsOf 15 = .ok (.fload 4, 2) := by decide +kernel
theorem dX2_secondsOf_17 : decode cX2_secondsOf 17 = .ok (.fconst 0, 1) := by decide +kernel
theorem dX2_secondsOf_18 : decode cX2_secondsOf 18 = .ok (.fcmp .l, 1) := by decide +kernel
theorem dX2_secondsOf_19 : decode cX2_secondsOf 19 = .ok (.ifCond .le 21, 3) := by decide +kernel
theorem dX2_secondsOf_22 : decode cX2_secondsOf 22 = .ok (.aload_n 1, 1) := by decide +kernel
theorem dX2_secondsOf_23 : decode cX2_secondsOf 23 = .ok (.iload_n 3, 1) := by decide +kernel
theorem dX2_secondsOf_24 : decode cX2_secondsOf 24 = .ok (.invokevirtual 34, 3) := by decide +kernel
theorem dX2_secondsOf_27 : decode cX2_secondsOf 27 = .ok (.i2f, 1) := by decide +kernel
theorem dX2_secondsOf_28 : decode cX2_secondsOf 28 = .ok (.ldc 41, 2) := by decide +kernel
theorem dX2_secondsOf_30 : decode cX2_secondsOf 30 = .ok (.ldc 42, 2) := by decide +kernel
theorem dX2_secondsOf_32 : decode cX2_secondsOf 32 = .ok (.fload 4, 2) := by decide +kernel
theorem dX2_secondsOf_34 : decode cX2_secondsOf 34 = .ok (.fmul, 1) := by decide +kernel
theorem dX2_secondsOf_35 : decode cX2_secondsOf 35 = .ok (.fdiv, 1) := by decide +kernel
theorem dX2_secondsOf_36 : decode cX2_secondsOf 36 = .ok (.fmul, 1) := by decide +kernel
theorem dX2_secondsOf_37 : decode cX2_secondsOf 37 = .ok (.goto 4, 3) := by decide +kernel
theorem dX2_secondsOf_40 : decode cX2_secondsOf 40 = .ok (.fconst 0, 1) := by decide +kernel
theorem dX2_secondsOf_41 : decode cX2_secondsOf 41 = .ok (.freturn, 1) := by decide +kernel
theorem dX3_init_0 : decode cX3_init 0 = .ok (.aload_n 0, 1) := by decide +kernel
theorem dX3_init_1 : decode cX3_init 1 = .ok (.invokespecial 3, 3) := by decide +kernel
theorem dX3_init_4 : decode cX3_init 4 = .ok (.aload_n 0, 1) := by decide +kernel
theorem dX3_init_5 : decode cX3_init 5 = .ok (.new 9, 3) := by decide +kernel
theorem dX3_init_8 : decode cX3_init 8 = .ok (.dup, 1) := by decide +kernel
theorem dX3_init_9 : decode cX3_init 9 = .ok (.invokespecial 11, 3) := by decide +kernel
theorem dX3_init_12 : decode cX3_init 12 = .ok (.putfield 12, 3) := by decide +kernel
theorem dX3_init_15 : decode cX3_init 15 = .ok (.aload_n 0, 1) := by decide +kernel
theorem dX3_init_16 : decode cX3_init 16 = .ok (.aload_n 1, 1) := by decide +kernel
theorem dX3_init_17 : decode cX3_init 17 = .ok (.putfield 18, 3) := by decide +kernel
theorem dX3_init_20 : decode cX3_init 20 = .ok (.return_, 1) := by decide +kernel
theorem dX3_draft_0 : decode cX3_draft 0 = .ok (.aload_n 0, 1) := by decide +kernel
theorem dX3_draft_1 : decode cX3_draft 1 = .ok (.getfield 12, 3) := by decide +kernel
theorem dX3_draft_4 : decode cX3_draft 4 = .ok (.areturn, 1) := by decide +kernel
theorem dX3_findFault_0 : decode cX3_findFault 0 = .ok (.aload_n 0, 1) := by decide +kernel
theorem dX3_findFault_1 : decode cX3_findFault 1 = .ok (.getfield 12, 3) := by decide +kernel
theorem dX3_findFault_4 : decode cX3_findFault 4 = .ok (.invokevirtual 22, 3) := by decide +kernel
theorem dX3_findFault_7 : decode cX3_findFault 7 = .ok (.aload_n 0, 1) := by decide +kernel
theorem dX3_findFault_8 : decode cX3_findFault 8 = .ok (.sipush (-1000), 3) := by decide +kernel
theorem dX3_findFault_11 : decode cX3_findFault 11 = .ok (.putfield 25, 3) := by decide +kernel
theorem dX3_findFault_14 : decode cX3_findFault 14 = .ok (.aload_n 0, 1) := by decide +kernel
theorem dX3_findFault_15 : decode cX3_findFault 15 = .ok (.iconst 0, 1) := by decide +kernel
theorem dX3_findFault_16 : decode cX3_findFault 16 = .ok (.putfield 29, 3) := by decide +kernel
theorem dX3_findFault_19 : decode cX3_findFault 19 = .ok (.aload_n 0, 1) := by decide +kernel
theorem dX3_findFault_20 : decode cX3_findFault 20 = .ok (.invokevirtual 32, 3) := by decide +kernel
theorem dX3_findFault_23 : decode cX3_findFault 23 = .ok (.aload_n 0, 1) := by decide +kernel
theorem dX3_findFault_24 : decode cX3_findFault 24 = .ok (.invokevirtual 35, 3) := by decide +kernel
theorem dX3_findFault_27 : decode cX3_findFault 27 = .ok (.aload_n 0, 1) := by decide +kernel
theorem dX3_findFault_28 : decode cX3_findFault 28 = .ok (.ldc 40, 2) := by decide +kernel
theorem dX3_findFault_30 : decode cX3_findFault 30 = .ok (.invokevirtual 42, 3) := by decide +kernel
theorem dX3_findFault_33 : decode cX3_findFault 33 = .ok (.ifCond .eq 43, 3) := by decide +kernel
theorem dX3_findFault_36 : decode cX3_findFault 36 = .ok (.aload_n 0, 1) := by decide +kernel
theorem dX3_findFault_37 : decode cX3_findFault 37 = .ok (.iconst 1, 1) := by decide +kernel
theorem dX3_findFault_38 : decode cX3_findFault 38 = .ok (.iconst 2, 1) := by decide +kernel
theorem dX3_findFault_39 : decode cX3_findFault 39 = .ok (.invokevirtual 46, 3) := by decide +kernel
theorem dX3_findFault_42 : decode cX3_findFault 42 = .ok (.istore_n 1, 1) := by decide +kernel
theorem dX3_findFault_43 : decode cX3_findFault 43 = .ok (.aload_n 0, 1) := by decide +kernel
theorem dX3_findFault_44 : decode cX3_findFault 44 = .ok (.iload_n 1, 1) := by decide +kernel
theorem dX3_findFault_45 : decode cX3_findFault 45 = .ok (.iconst 1, 1) := by decide +kernel
theorem dX3_findFault_46 : decode cX3_findFault 46 = .ok (.isub, 1) := by decide +kernel
theorem dX3_findFault_47 : decode cX3_findFault 47 = .ok (.invokevirtual 50, 3) := by decide +kernel
theorem dX3_findFault_50 : decode cX3_findFault 50 = .ok (.iload_n 1, 1) := by decide +kernel
theorem dX3_findFault_51 : decode cX3_findFault 51 = .ok (.iconst 1, 1) := by decide +kernel
theorem dX3_findFault_52 : decode cX3_findFault 52 = .ok (.if_icmp .ne 24, 3) := by decide +kernel
theorem dX3_findFault_55 : decode cX3_findFault 55 = .ok (.aload_n 0, 1) := by decide +kernel
theorem dX3_findFault_56 : decode cX3_findFault 56 = .ok (.ldc 40, 2) := by decide +kernel
theorem dX3_findFault_58 : decode cX3_findFault 58 = .ok (.invokevirtual 42, 3) := by decide +kernel
theorem dX3_findFault_61 : decode cX3_findFault 61 = .ok (.ifCond .eq 15, 3) := by decide +kernel
theorem dX3_findFault_64 : decode cX3_findFault 64 = .ok (.aload_n 0, 1) := by decide +kernel
theorem dX3_findFault_65 : decode cX3_findFault 65 = .ok (.aload_n 0, 1) := by decide +kernel
theorem dX3_findFault_66 : decode cX3_findFault 66 = .ok (.iconst 2, 1) := by decide +kernel
theorem dX3_findFault_67 : decode cX3_findFault 67 = .ok (.iconst 2, 1) := by decide +kernel
theorem dX3_findFault_68 : decode cX3_findFault 68 = .ok (.invokevirtual 46, 3) := by decide +kernel
theorem dX3_findFault_71 : decode cX3_findFault 71 = .ok (.iconst 1, 1) := by decide +kernel
theorem dX3_findFault_72 : decode cX3_findFault 72 = .ok (.isub, 1) := by decide +kernel
theorem dX3_findFault_73 : decode cX3_findFault 73 = .ok (.invokevirtual 50, 3) := by decide +kernel
theorem dX3_findFault_76 : decode cX3_findFault 76 = .ok (.aload_n 0, 1) := by decide +kernel
theorem dX3_findFault_77 : decode cX3_findFault 77 = .ok (.ldc 54, 2) := by decide +kernel
theorem dX3_findFault_79 : decode cX3_findFault 79 = .ok (.invokevirtual 42, 3) := by decide +kernel
theorem dX3_findFault_82 : decode cX3_findFault 82 = .ok (.ifCond .eq 18, 3) := by decide +kernel
theorem dX3_findFault_85 : decode cX3_findFault 85 = .ok (.aload_n 0, 1) := by decide +kernel
theorem dX3_findFault_86 : decode cX3_findFault 86 = .ok (.getfield 12, 3) := by decide +kernel
theorem dX3_findFault_89 : decode cX3_findFault 89 = .ok (.iconst 0, 1) := by decide +kernel
theorem dX3_findFault_90 : decode cX3_findFault 90 = .ok (.iconst 5, 1) := by decide +kernel
theorem dX3_findFault_91 : decode cX3_findFault 91 = .ok (.aload_n 0, 1) := by decide +kernel
theorem dX3_findFault_92 : decode cX3_findFault 92 = .ok (.iconst 2, 1) := by decide +kernel
theorem dX3_findFault_93 : decode cX3_findFault 93 = .ok (.iconst 4, 1) := by decide +kernel
theorem dX3_findFault_94 : decode cX3_findFault 94 = .ok (.invokevirtual 46, 3) := by decide +kernel
theorem dX3_findFault_97 : decode cX3_findFault 97 = .ok (.invokevirtual 56, 3) := by decide +kernel
theorem dX3_findFault_100 : decode cX3_findFault 100 = .ok (.aload_n 0, 1) := by decide +kernel
theorem dX3_findFault_101 : decode cX3_findFault 101 = .ok (.ldc 60, 2) := by decide +kernel
theorem dX3_findFault_103 : decode cX3_findFault 103 = .ok (.invokevirtual 62, 3) := by decide +kernel
theorem dX3_findFault_106 : decode cX3_findFault 106 = .ok (.aload_n 0, 1) := by decide +kernel
theorem dX3_findFault_107 : decode cX3_findFault 107 = .ok (.getfield 66, 3) := by decide +kernel
theorem dX3_findFault_110 : decode cX3_findFault 110 = .ok (.aload_n 0, 1) := by decide +kernel
theorem dX3_findFault_111 : decode cX3_findFault 111 = .ok (.getfield 29, 3) := by decide +kernel
theorem dX3_findFault_114 : decode cX3_findFault 114 = .ok (.if_icmp .ge 7, 3) := by decide +kernel
theorem dX3_findFault_117 : decode cX3_findFault 117 = .ok (.aload_n 0, 1) := by decide +kernel
theorem dX3_findFault_118 : decode cX3_findFault 118 = .ok (.invokevirtual 69, 3) := by decide +kernel
theorem dX3_findFault_121 : decode cX3_findFault 121 = .ok (.aload_n 0, 1) := by decide +kernel
theorem dX3_findFault_122 : decode cX3_findFault 122 = .ok (.getfield 25, 3) := by decide +kernel
theorem dX3_findFault_125 : decode cX3_findFault 125 = .ok (.ireturn, 1) := by decide +kernel
theorem dX3_readHead_0 : decode cX3_readHead 0 = .ok (.aload_n 0, 1) := by decide +kernel
theorem dX3_readHead_1 : decode cX3_readHead 1 = .ok (.ldc 72, 2) := by decide +kernel
theorem dX3_readHead_3 : decode cX3_readHead 3 = .ok (.invokevirtual 62, 3) := by decide +kernel
theorem dX3_readHead_6 : decode cX3_readHead 6 = .ok (.aload_n 0, 1) := by decide +kernel
theorem dX3_readHead_7 : decode cX3_readHead 7 = .ok (.iconst 0, 1) := by decide +kernel
theorem dX3_readHead_8 : decode cX3_readHead 8 = .ok (.sipush 999, 3) := by decide +kernel
theorem dX3_readHead_11 : decode cX3_readHead 11 = .ok (.invokevirtual 46, 3) := by decide +kernel
theorem dX3_readHead_14 : decode cX3_readHead 14 = .ok (.pop, 1) := by decide +kernel
theorem dX3_readHead_15 : decode cX3_readHead 15 = .ok (.aload_n 0, 1) := by decide +kernel
theorem dX3_readHead_16 : decode cX3_readHead 16 = .ok (.getfield 12, 3) := by decide +kernel
theorem dX3_readHead_19 : decode cX3_readHead 19 = .ok (.iconst 0, 1) := by decide +kernel
theorem dX3_readHead_20 : decode cX3_readHead 20 = .ok (.iconst 4, 1) := by decide +kernel
theorem dX3_readHead_21 : decode cX3_readHead 21 = .ok (.aload_n 0, 1) := by decide +kernel
theorem dX3_readHead_22 : decode cX3_readHead 22 = .ok (.ldc 74, 2) := by decide +kernel
theorem dX3_readHead_24 : decode cX3_readHead 24 = .ok (.invokevirtual 42, 3) := by decide +kernel
theorem dX3_readHead_27 : decode cX3_readHead 27 = .ok (.ifCond .eq 7, 3) := by decide +kernel
theorem dX3_readHead_30 : decode cX3_readHead 30 = .ok (.iconst 1, 1) := by decide +kernel
theorem dX3_readHead_31 : decode cX3_readHead 31 = .ok (.goto 4, 3) := by decide +kernel
theorem dX3_readHead_34 : decode cX3_readHead 34 = .ok (.iconst 0, 1) := by decide +kernel
theorem dX3_readHead_35 : decode cX3_readHead 35 = .ok (.invokevirtual 56, 3) := by decide +kernel
theorem dX3_readHead_38 : decode cX3_readHead 38 = .ok (.aload_n 0, 1) := by decide +kernel
theorem dX3_readHead_39 : decode cX3_readHead 39 = .ok (.ldc 76, 2) := by decide +kernel
theorem dX3_readHead_41 : decode cX3_readHead 41 = .ok (.invokevirtual 42, 3) := by decide +kernel
theorem dX3_readHead_44 : decode cX3_readHead 44 = .ok (.ifCond .eq 19, 3) := by decide +kernel
theorem dX3_readHead_47 : decode cX3_readHead 47 = .ok (.aload_n 0, 1) := by decide +kernel
theorem dX3_readHead_48 : decode cX3_readHead 48 = .ok (.getfield 12, 3) := by decide +kernel
theorem dX3_readHead_51 : decode cX3_readHead 51 = .ok (.iconst 0, 1) := by decide +kernel
theorem dX3_readHead_52 : decode cX3_readHead 52 = .ok (.bipush 6, 2) := by decide +kernel
theorem dX3_readHead_54 : decode cX3_readHead 54 = .ok (.aload_n 0, 1) := by decide +kernel
theorem dX3_readHead_55 : decode cX3_readHead 55 = .ok (.iconst 1, 1) := by decide +kernel
theorem dX3_readHead_56 : decode cX3_readHead 56 = .ok (.iconst 4, 1) := by decide +kernel
theorem dX3_readHead_57 : decode cX3_readHead 57 = .ok (.invokevirtual 46, 3) := by decide +kernel
theorem dX3_readHead_60 : decode cX3_readHead 60 = .ok (.invokevirtual 56, 3) := by decide +kernel
theorem dX3_readHead_63 : decode cX3_readHead 63 = .ok (.aload_n 0, 1) := by decide +kernel
theorem dX3_readHead_64 : decode cX3_readHead 64 = .ok (.ldc 78, 2) := by decide +kernel
theorem dX3_readHead_66 : decode cX3_readHead 66 = .ok (.invokevirtual 42, 3) := by decide +kernel
theorem dX3_readHead_69 : decode cX3_readHead 69 = .ok (.ifCond .eq 16, 3) := by decide +kernel
theorem dX3_readHead_72 : decode cX3_readHead 72 = .ok (.aload_n 0, 1) := by decide +kernel
theorem dX3_readHead_73 : decode cX3_readHead 73 = .ok (.getfield 12, 3) := by decide +kernel
theorem dX3_readHead_76 : decode cX3_readHead 76 = .ok (.iconst 0, 1) := by decide +kernel
theorem dX3_readHead_77 : decode cX3_readHead 77 = .ok (.iconst 0, 1) := by decide +kernel
theorem dX3_readHead_78 : decode cX3_readHead 78 = .ok (.aload_n 0, 1) := by decide +kernel
theorem dX3_readHead_79 : decode cX3_readHead 79 = .ok (.invokevirtual 80, 3) := by decide +kernel
theorem dX3_readHead_82 : decode cX3_readHead 82 = .ok (.invokevirtual 56, 3) := by decide +kernel
theorem dX3_readHead_85 : decode cX3_readHead 85 = .ok (.aload_n 0, 1) := by decide +kernel
theorem dX3_readHead_86 : decode cX3_readHead 86 = .ok (.ldc 84, 2) := by decide +kernel
theorem dX3_readHead_88 : decode cX3_readHead 88 = .ok (.invokevirtual 42, 3) := by decide +kernel
theorem dX3_readHead_91 : decode cX3_readHead 91 = .ok (.ifCond .eq 32, 3) := by decide +kernel
theorem dX3_readHead_94 : decode cX3_readHead 94 = .ok (.aload_n 0, 1) := by decide +kernel
theorem dX3_readHead_95 : decode cX3_readHead 95 = .ok (.getfield 12, 3) := by decide +kernel
theorem dX3_readHead_98 : decode cX3_readHead 98 = .ok (.iconst 0, 1) := by decide +kernel
theorem dX3_readHead_99 : decode cX3_readHead 99 = .ok (.iconst 1, 1) := by decide +kernel
theorem dX3_readHead_100 : decode cX3_readHead 100 = .ok (.aload_n 0, 1) := by decide +kernel
theorem dX3_readHead_101 : decode cX3_readHead 101 = .ok (.iconst 1, 1) := by decide +kernel
theorem dX3_readHead_102 : decode cX3_readHead 102 = .ok (.bipush 12, 2) := by decide +kernel
theorem dX3_readHead_104 : decode cX3_readHead 104 = .ok (.invokevirtual 46, 3) := by decide +kernel
theorem dX3_readHead_107 : decode cX3_readHead 107 = .ok (.invokevirtual 56, 3) := by decide +kernel
theorem dX3_readHead_110 : decode cX3_readHead 110 = .ok (.aload_n 0, 1) := by decide +kernel
theorem dX3_readHead_111 : decode cX3_readHead 111 = .ok (.getfield 12, 3) := by decide +kernel
theorem dX3_readHead_114 : decode cX3_readHead 114 = .ok (.iconst 0, 1) := by decide +kernel
theorem dX3_readHead_115 : decode cX3_readHead 115 = .ok (.iconst 2, 1) := by decide +kernel
theorem dX3_readHead_116 : decode cX3_readHead 116 = .ok (.aload_n 0, 1) := by decide +kernel
theorem dX3_readHead_117 : decode cX3_readHead 117 = .ok (.invokevirtual 86, 3) := by decide +kernel
theorem dX3_readHead_120 : decode cX3_readHead 120 = .ok (.invokevirtual 56, 3) := by decide +kernel
theorem dX3_readHead_123 : decode cX3_readHead 123 = .ok (.return_, 1) := by decide +kernel
theorem dX3_readKey_0 : decode cX3_readKey 0 = .ok (.aload_n 0, 1) := by decide +kernel
theorem dX3_readKey_1 : decode cX3_readKey 1 = .ok (.ldc 89, 2) := by decide +kernel
theorem dX3_readKey_3 : decode cX3_readKey 3 = .ok (.invokevirtual 42, 3) := by decide +kernel
theorem dX3_readKey_6 : decode cX3_readKey 6 = .ok (.ifCond .eq 5, 3) := by decide +kernel
theorem dX3_readKey_9 : decode cX3_readKey 9 = .ok (.iconst 0, 1) := by decide +kernel
theorem dX3_readKey_10 : decode cX3_readKey 10 = .ok (.ireturn, 1) := by decide +kernel
theorem dX3_readKey_11 : decode cX3_readKey 11 = .ok (.aload_n 0, 1) := by decide +kernel
theorem dX3_readKey_12 : decode cX3_readKey 12 = .ok (.iconst 1, 1) := by decide +kernel
theorem dX3_readKey_13 : decode cX3_readKey 13 = .ok (.bipush 7, 2) := by decide +kernel
theorem dX3_readKey_15 : decode cX3_readKey 15 = .ok (.invokevirtual 46, 3) := by decide +kernel
theorem dX3_readKey_18 : decode cX3_readKey 18 = .ok (.istore_n 1, 1) := by decide +kernel
theorem dX3_readKey_19 : decode cX3_readKey 19 = .ok (.aload_n 0, 1) := by decide +kernel
theorem dX3_readKey_20 : decode cX3_readKey 20 = .ok (.ldc 91, 2) := by decide +kernel
theorem dX3_readKey_22 : decode cX3_readKey 22 = .ok (.invokevirtual 42, 3) := by decide +kernel
theorem dX3_readKey_25 : decode cX3_readKey 25 = .ok (.ifCond .eq 5, 3) := by decide +kernel
theorem dX3_readKey_28 : decode cX3_readKey 28 = .ok (.iload_n 1, 1) := by decide +kernel
theorem dX3_readKey_29 : decode cX3_readKey 29 = .ok (.ireturn, 1) := by decide +kernel
theorem dX3_readKey_30 : decode cX3_readKey 30 = .ok (.aload_n 0, 1) := by decide +kernel
theorem dX3_readKey_31 : decode cX3_readKey 31 = .ok (.ldc 93, 2) := by decide +kernel
theorem dX3_readKey_33 : decode cX3_readKey 33 = .ok (.invokevirtual 62, 3) := by decide +kernel
theorem dX3_readKey_36 : decode cX3_readKey 36 = .ok (.iload_n 1, 1) := by decide +kernel
theorem dX3_readKey_37 : decode cX3_readKey 37 = .ok (.ineg, 1) := by decide +kernel
theorem dX3_readKey_38 : decode cX3_readKey 38 = .ok (.ireturn, 1) := by decide +kernel
theorem dX3_readLower_0 : decode cX3_readLower 0 = .ok (.iconst 2, 1) := by decide +kernel
theorem dX3_readLower_1 : decode cX3_readLower 1 = .ok (.aload_n 0, 1) := by decide +kernel
theorem dX3_readLower_2 : decode cX3_readLower 2 = .ok (.invokevirtual 95, 3) := by decide +kernel
theorem dX3_readLower_5 : decode cX3_readLower 5 = .ok (.invokestatic 98, 3) := by decide +kernel
theorem dX3_readLower_8 : decode cX3_readLower 8 = .ok (.ifCond .ne 7, 3) := by decide +kernel
theorem dX3_readLower_11 : decode cX3_readLower 11 = .ok (.aload_n 0, 1) := by decide +kernel
theorem dX3_readLower_12 : decode cX3_readLower 12 = .ok (.invokevirtual 69, 3) := by decide +kernel
theorem dX3_readLower_15 : decode cX3_readLower 15 = .ok (.aload_n 0, 1) := by decide +kernel
theorem dX3_readLower_16 : decode cX3_readLower 16 = .ok (.iconst 2, 1) := by decide +kernel
theorem dX3_readLower_17 : decode cX3_readLower 17 = .ok (.bipush 16, 2) := by decide +kernel
theorem dX3_readLower_19 : decode cX3_readLower 19 = .ok (.invokevirtual 46, 3) := by decide +kernel
theorem dX3_readLower_22 : decode cX3_readLower 22 = .ok (.ireturn, 1) := by decide +kernel
theorem dX3_readEvents_0 : decode cX3_readEvents 0 = .ok (.aload_n 0, 1) := by decide +kernel
theorem dX3_readEvents_1 : decode cX3_readEvents 1 = .ok (.iload_n 1, 1) := by decide +kernel
theorem dX3_readEvents_2 : decode cX3_readEvents 2 = .ok (.invokevirtual 102, 3) := by decide +kernel
theorem dX3_readEvents_5 : decode cX3_readEvents 5 = .ok (.iconst 1, 1) := by decide +kernel
theorem dX3_readEvents_6 : decode cX3_readEvents 6 = .ok (.istore_n 2, 1) := by decide +kernel
theorem dX3_readEvents_7 : decode cX3_readEvents 7 = .ok (.iload_n 2, 1) := by decide +kernel
theorem dX3_readEvents_8 : decode cX3_readEvents 8 = .ok (.bipush 24, 2) := by decide +kernel
theorem dX3_readEvents_10 : decode cX3_readEvents 10 = .ok (.if_icmp .ge 21, 3) := by decide +kernel
theorem dX3_readEvents_13 : decode cX3_readEvents 13 = .ok (.aload_n 0, 1) := by decide +kernel
theorem dX3_readEvents_14 : decode cX3_readEvents 14 = .ok (.invokevirtual 105, 3) := by decide +kernel
theorem dX3_readEvents_17 : decode cX3_readEvents 17 = .ok (.ifCond .eq 14, 3) := by decide +kernel
theorem dX3_readEvents_20 : decode cX3_readEvents 20 = .ok (.aload_n 0, 1) := by decide +kernel
theorem dX3_readEvents_21 : decode cX3_readEvents 21 = .ok (.iload_n 1, 1) := by decide +kernel
theorem dX3_readEvents_22 : decode cX3_readEvents 22 = .ok (.invokevirtual 102, 3) := by decide +kernel
theorem dX3_readEvents_25 : decode cX3_readEvents 25 = .ok (.iinc 2 1, 3) := by decide +kernel
theorem dX3_readEvents_28 : decode cX3_readEvents 28 = .ok (.goto (-21), 3) := by decide +kernel
theorem dX3_readEvents_31 : decode cX3_readEvents 31 = .ok (.return_, 1) := by decide +kernel
theorem dX3_beginsEvent_0 : decode cX3_beginsEvent 0 = .ok (.aload_n 0, 1) := by decide +kernel
theorem dX3_beginsEvent_1 : decode cX3_beginsEvent 1 = .ok (.getfield 25, 3) := by decide +kernel
theorem dX3_beginsEvent_4 : decode cX3_beginsEvent 4 = .ok (.sipush (-1000), 3) := by decide +kernel
theorem dX3_beginsEvent_7 : decode cX3_beginsEvent 7 = .ok (.if_icmp .ne 23, 3) := by decide +kernel
theorem dX3_beginsEvent_10 : decode cX3_beginsEvent 10 = .ok (.aload_n 0, 1) := by decide +kernel
theorem dX3_beginsEvent_11 : decode cX3_beginsEvent 11 = .ok (.invokevirtual 109, 3) := by decide +kernel
theorem dX3_beginsEvent_14 : decode cX3_beginsEvent 14 = .ok (.ifCond .ge 12, 3) := by decide +kernel
theorem dX3_beginsEvent_17 : decode cX3_beginsEvent 17 = .ok (.aload_n 0, 1) := by decide +kernel
theorem dX3_beginsEvent_18 : decode cX3_beginsEvent 18 = .ok (.ldc 112, 2) := by decide +kernel
theorem dX3_beginsEvent_20 : decode cX3_beginsEvent 20 = .ok (.invokevirtual 114, 3) := by decide +kernel
theorem dX3_beginsEvent_23 : decode cX3_beginsEvent 23 = .ok (.ifCond .eq 7, 3) := by decide +kernel
theorem dX3_beginsEvent_26 : decode cX3_beginsEvent 26 = .ok (.iconst 1, 1) := by decide +kernel
theorem dX3_beginsEvent_27 : decode cX3_beginsEvent 27 = .ok (.goto 4, 3) := by decide +kernel
theorem dX3_beginsEvent_30 : decode cX3_beginsEvent 30 = .ok (.iconst 0, 1) := by decide +kernel
theorem dX3_beginsEvent_31 : decode cX3_beginsEvent 31 = .ok (.ireturn, 1) := by decide +kernel
theorem dX3_readEvent_0 : decode cX3_readEvent 0 = .ok (.aload_n 0, 1) := by decide +kernel
theorem dX3_readEvent_1 : decode cX3_readEvent 1 = .ok (.invokevirtual 105, 3) := by decide +kernel
theorem dX3_readEvent_4 : decode cX3_readEvent 4 = .ok (.ifCond .ne 8, 3) := by decide +kernel
theorem dX3_readEvent_7 : decode cX3_readEvent 7 = .ok (.aload_n 0, 1) := by decide +kernel
theorem dX3_readEvent_8 : decode cX3_readEvent 8 = .ok (.invokevirtual 69, 3) := by decide +kernel
theorem dX3_readEvent_11 : decode cX3_readEvent 11 = .ok (.return_, 1) := by decide +kernel
theorem dX3_readEvent_12 : decode cX3_readEvent 12 = .ok (.aload_n 0, 1) := by decide +kernel
theorem dX3_readEvent_13 : decode cX3_readEvent 13 = .ok (.invokevirtual 109, 3) := by decide +kernel
theorem dX3_readEvent_16 : decode cX3_readEvent 16 = .ok (.istore_n 2, 1) := by decide +kernel
theorem dX3_readEvent_17 : decode cX3_readEvent 17 = .ok (.aload_n 0, 1) := by decide +kernel
theorem dX3_readEvent_18 : decode cX3_readEvent 18 = .ok (.invokevirtual 32, 3) := by decide +kernel
theorem dX3_readEvent_21 : decode cX3_readEvent 21 = .ok (.iload_n 2, 1) := by decide +kernel
theorem dX3_readEvent_22 : decode cX3_readEvent 22 = .ok (.ifCond .ge 20, 3) := by decide +kernel
theorem dX3_readEvent_25 : decode cX3_readEvent 25 = .ok (.aload_n 0, 1) := by decide +kernel
theorem dX3_readEvent_26 : decode cX3_readEvent 26 = .ok (.getfield 12, 3) := by decide +kernel
theorem dX3_readEvent_29 : decode cX3_readEvent 29 = .ok (.iconst 0, 1) := by decide +kernel
theorem dX3_readEvent_30 : decode cX3_readEvent 30 = .ok (.iload_n 1, 1) := by decide +kernel
theorem dX3_readEvent_31 : decode cX3_readEvent 31 = .ok (.aload_n 0, 1) := by decide +kernel
theorem dX3_readEvent_32 : decode cX3_readEvent 32 = .ok (.invokevirtual 117, 3) := by decide +kernel
theorem dX3_readEvent_35 : decode cX3_readEvent 35 = .ok (.invokestatic 120, 3) := by decide +kernel
theorem dX3_readEvent_38 : decode cX3_readEvent 38 = .ok (.invokevirtual 126, 3) := by decide +kernel
theorem dX3_readEvent_41 : decode cX3_readEvent 41 = .ok (.return_, 1) := by decide +kernel
theorem dX3_readEvent_42 : decode cX3_readEvent 42 = .ok (.aload_n 0, 1) := by decide +kernel
theorem dX3_readEvent_43 : decode cX3_readEvent 43 = .ok (.invokevirtual 129, 3) := by decide +kernel
theorem dX3_readEvent_46 : decode cX3_readEvent 46 = .ok (.istore_n 3, 1) := by decide +kernel
theorem dX3_readEvent_47 : decode cX3_readEvent 47 = .ok (.bipush 7, 2) := by decide +kernel
theorem dX3_readEvent_49 : decode cX3_readEvent 49 = .ok (.aload_n 0, 1) := by decide +kernel
theorem dX3_readEvent_50 : decode cX3_readEvent 50 = .ok (.iconst 0, 1) := by decide +kernel
theorem dX3_readEvent_51 : decode cX3_readEvent 51 = .ok (.bipush 8, 2) := by decide +kernel
theorem dX3_readEvent_53 : decode cX3_readEvent 53 = .ok (.invokevirtual 46, 3) := by decide +kernel
theorem dX3_readEvent_56 : decode cX3_readEvent 56 = .ok (.imul, 1) := by decide +kernel
theorem dX3_readEvent_57 : decode cX3_readEvent 57 = .ok (.iload_n 2, 1) := by decide +kernel
theorem dX3_readEvent_58 : decode cX3_readEvent 58 = .ok (.iadd, 1) := by decide +kernel
theorem dX3_readEvent_59 : decode cX3_readEvent 59 = .ok (.istore 4, 2) := by decide +kernel
theorem dX3_readEvent_61 : decode cX3_readEvent 61 = .ok (.aload_n 0, 1) := by decide +kernel
theorem dX3_readEvent_62 : decode cX3_readEvent 62 = .ok (.invokevirtual 117, 3) := by decide +kernel
theorem dX3_readEvent_65 : decode cX3_readEvent 65 = .ok (.istore 5, 2) := by decide +kernel
theorem dX3_readEvent_67 : decode cX3_readEvent 67 = .ok (.aload_n 0, 1) := by decide +kernel
theorem dX3_readEvent_68 : decode cX3_readEvent 68 = .ok (.getfield 12, 3) := by decide +kernel
theorem dX3_readEvent_71 : decode cX3_readEvent 71 = .ok (.iconst 0, 1) := by decide +kernel
theorem dX3_readEvent_72 : decode cX3_readEvent 72 = .ok (.iload_n 1, 1) := by decide +kernel
theorem dX3_readEvent_73 : decode cX3_readEvent 73 = .ok (.iload 4, 2) := by decide +kernel
theorem dX3_readEvent_75 : decode cX3_readEvent 75 = .ok (.iload_n 3, 1) := by decide +kernel
theorem dX3_readEvent_76 : decode cX3_readEvent 76 = .ok (.iload 5, 2) := by decide +kernel
theorem dX3_readEvent_78 : decode cX3_readEvent 78 = .ok (.aload_n 0, 1) := by decide +kernel
theorem dX3_readEvent_79 : decode cX3_readEvent 79 = .ok (.ldc 132, 2) := by decide +kernel
theorem dX3_readEvent_81 : decode cX3_readEvent 81 = .ok (.invokevirtual 42, 3) := by decide +kernel
theorem dX3_readEvent_84 : decode cX3_readEvent 84 = .ok (.invokestatic 134, 3) := by decide +kernel
theorem dX3_readEvent_87 : decode cX3_readEvent 87 = .ok (.invokevirtual 126, 3) := by decide +kernel
theorem dX3_readEvent_90 : decode cX3_readEvent 90 = .ok (.return_, 1) := by decide +kernel
theorem dX3_readSign_0 : decode cX3_readSign 0 = .ok (.iconst 1, 1) := by decide +kernel
theorem dX3_readSign_1 : decode cX3_readSign 1 = .ok (.istore_n 1, 1) := by decide +kernel
theorem dX3_readSign_2 : decode cX3_readSign 2 = .ok (.iload_n 1, 1) := by decide +kernel
theorem dX3_readSign_3 : decode cX3_readSign 3 = .ok (.iconst 3, 1) := by decide +kernel
theorem dX3_readSign_4 : decode cX3_readSign 4 = .ok (.if_icmp .gt 22, 3) := by decide +kernel
theorem dX3_readSign_7 : decode cX3_readSign 7 = .ok (.aload_n 0, 1) := by decide +kernel
theorem dX3_readSign_8 : decode cX3_readSign 8 = .ok (.iload_n 1, 1) := by decide +kernel
theorem dX3_readSign_9 : decode cX3_readSign 9 = .ok (.invokestatic 138, 3) := by decide +kernel
theorem dX3_readSign_12 : decode cX3_readSign 12 = .ok (.invokevirtual 42, 3) := by decide +kernel
theorem dX3_readSign_15 : decode cX3_readSign 15 = .ok (.ifCond .eq 5, 3) := by decide +kernel
theorem dX3_readSign_18 : decode cX3_readSign 18 = .ok (.iload_n 1, 1) := by decide +kernel
theorem dX3_readSign_19 : decode cX3_readSign 19 = .ok (.ireturn, 1) := by decide +kernel
theorem dX3_readSign_20 : decode cX3_readSign 20 = .ok (.iinc 1 1, 3) := by decide +kernel
theorem dX3_readSign_23 : decode cX3_readSign 23 = .ok (.goto (-21), 3) := by decide +kernel
theorem dX3_readSign_26 : decode cX3_readSign 26 = .ok (.iconst 0, 1) := by decide +kernel
theorem dX3_readSign_27 : decode cX3_readSign 27 = .ok (.ireturn, 1) := by decide +kernel
theorem dX3_readDuration_0 : decode cX3_readDuration 0 = .ok (.aload_n 0, 1) := by decide +kernel
theorem dX3_readDuration_1 : decode cX3_readDuration 1 = .ok (.ldc 142, 2) := by decide +kernel
theorem dX3_readDuration_3 : decode cX3_readDuration 3 = .ok (.invokevirtual 42, 3) := by decide +kernel
theorem dX3_readDuration_6 : decode cX3_readDuration 6 = .ok (.ifCond .eq 7, 3) := by decide +kernel
theorem dX3_readDuration_9 : decode cX3_readDuration 9 = .ok (.iconst 1, 1) := by decide +kernel
theorem dX3_readDuration_10 : decode cX3_readDuration 10 = .ok (.goto 4, 3) := by decide +kernel
theorem dX3_readDuration_13 : decode cX3_readDuration 13 = .ok (.iconst 0, 1) := by decide +kernel
theorem dX3_readDuration_14 : decode cX3_readDuration 14 = .ok (.istore_n 1, 1) := by decide +kernel
theorem dX3_readDuration_15 : decode cX3_readDuration 15 = .ok (.iconst 0, 1) := by decide +kernel
theorem dX3_readDuration_16 : decode cX3_readDuration 16 = .ok (.istore_n 2, 1) := by decide +kernel
theorem dX3_readDuration_17 : decode cX3_readDuration 17 = .ok (.iload_n 2, 1) := by decide +kernel
theorem dX3_readDuration_18 : decode cX3_readDuration 18 = .ok (.iconst 5, 1) := by decide +kernel
theorem dX3_readDuration_19 : decode cX3_readDuration 19 = .ok (.if_icmp .ge 26, 3) := by decide +kernel
theorem dX3_readDuration_22 : decode cX3_readDuration 22 = .ok (.aload_n 0, 1) := by decide +kernel
theorem dX3_readDuration_23 : decode cX3_readDuration 23 = .ok (.iload_n 2, 1) := by decide +kernel
theorem dX3_readDuration_24 : decode cX3_readDuration 24 = .ok (.invokestatic 144, 3) := by decide +kernel
theorem dX3_readDuration_27 : decode cX3_readDuration 27 = .ok (.invokevirtual 42, 3) := by decide +kernel
theorem dX3_readDuration_30 : decode cX3_readDuration 30 = .ok (.ifCond .eq 9, 3) := by decide +kernel
theorem dX3_readDuration_33 : decode cX3_readDuration 33 = .ok (.iconst 2, 1) := by decide +kernel
theorem dX3_readDuration_34 : decode cX3_readDuration 34 = .ok (.iload_n 2, 1) := by decide +kernel
theorem dX3_readDuration_35 : decode cX3_readDuration 35 = .ok (.imul, 1) := by decide +kernel
theorem dX3_readDuration_36 : decode cX3_readDuration 36 = .ok (.iload_n 1, 1) := by decide +kernel
theorem dX3_readDuration_37 : decode cX3_readDuration 37 = .ok (.iadd, 1) := by decide +kernel
theorem dX3_readDuration_38 : decode cX3_readDuration 38 = .ok (.ireturn, 1) := by decide +kernel
theorem dX3_readDuration_39 : decode cX3_readDuration 39 = .ok (.iinc 2 1, 3) := by decide +kernel
theorem dX3_readDuration_42 : decode cX3_readDuration 42 = .ok (.goto (-25), 3) := by decide +kernel
theorem dX3_readDuration_45 : decode cX3_readDuration 45 = .ok (.aload_n 0, 1) := by decide +kernel
theorem dX3_readDuration_46 : decode cX3_readDuration 46 = .ok (.invokevirtual 69, 3) := by decide +kernel
theorem dX3_readDuration_49 : decode cX3_readDuration 49 = .ok (.iconst 0, 1) := by decide +kernel
theorem dX3_readDuration_50 : decode cX3_readDuration 50 = .ok (.ireturn, 1) := by decide +kernel
theorem dX3_fail_0 : decode cX3_fail 0 = .ok (.aload_n 0, 1) := by decide +kernel
theorem dX3_fail_1 : decode cX3_fail 1 = .ok (.getfield 25, 3) := by decide +kernel
theorem dX3_fail_4 : decode cX3_fail 4 = .ok (.sipush (-1000), 3) := by decide +kernel
theorem dX3_fail_7 : decode cX3_fail 7 = .ok (.if_icmp .ne 11, 3) := by decide +kernel
theorem dX3_fail_10 : decode cX3_fail 10 = .ok (.aload_n 0, 1) := by decide +kernel
theorem dX3_fail_11 : decode cX3_fail 11 = .ok (.aload_n 0, 1) := by decide +kernel
theorem dX3_fail_12 : decode cX3_fail 12 = .ok (.getfield 66, 3) := by decide +kernel
theorem dX3_fail_15 : decode cX3_fail 15 = .ok (.putfield 25, 3) := by decide +kernel
theorem dX3_fail_18 : decode cX3_fail 18 = .ok (.return_, 1) := by decide +kernel
theorem dX3_takeWord_0 : decode cX3_takeWord 0 = .ok (.aload_n 0, 1) := by decide +kernel
theorem dX3_takeWord_1 : decode cX3_takeWord 1 = .ok (.getfield 25, 3) := by decide +kernel
theorem dX3_takeWord_4 : decode cX3_takeWord 4 = .ok (.sipush (-1000), 3) := by decide +kernel
theorem dX3_takeWord_7 : decode cX3_takeWord 7 = .ok (.if_icmp .ne 15, 3) := by decide +kernel
theorem dX3_takeWord_10 : decode cX3_takeWord 10 = .ok (.aload_n 0, 1) := by decide +kernel
theorem dX3_takeWord_11 : decode cX3_takeWord 11 = .ok (.aload_n 1, 1) := by decide +kernel
theorem dX3_takeWord_12 : decode cX3_takeWord 12 = .ok (.invokevirtual 114, 3) := by decide +kernel
theorem dX3_takeWord_15 : decode cX3_takeWord 15 = .ok (.ifCond .eq 7, 3) := by decide +kernel
theorem dX3_takeWord_18 : decode cX3_takeWord 18 = .ok (.iconst 1, 1) := by decide +kernel
theorem dX3_takeWord_19 : decode cX3_takeWord 19 = .ok (.goto 4, 3) := by decide +kernel
theorem dX3_takeWord_22 : decode cX3_takeWord 22 = .ok (.iconst 0, 1) := by decide +kernel
theorem dX3_takeWord_23 : decode cX3_takeWord 23 = .ok (.istore_n 2, 1) := by decide +kernel
theorem dX3_takeWord_24 : decode cX3_takeWord 24 = .ok (.iload_n 2, 1) := by decide +kernel
theorem dX3_takeWord_25 : decode cX3_takeWord 25 = .ok (.ifCond .eq 7, 3) := by decide +kernel
theorem dX3_takeWord_28 : decode cX3_takeWord 28 = .ok (.aload_n 0, 1) := by decide +kernel
theorem dX3_takeWord_29 : decode cX3_takeWord 29 = .ok (.invokevirtual 32, 3) := by decide +kernel
theorem dX3_takeWord_32 : decode cX3_takeWord 32 = .ok (.iload_n 2, 1) := by decide +kernel
theorem dX3_takeWord_33 : decode cX3_takeWord 33 = .ok (.ireturn, 1) := by decide +kernel
theorem dX3_needWord_0 : decode cX3_needWord 0 = .ok (.aload_n 0, 1) := by decide +kernel
theorem dX3_needWord_1 : decode cX3_needWord 1 = .ok (.aload_n 1, 1) := by decide +kernel
theorem dX3_needWord_2 : decode cX3_needWord 2 = .ok (.invokevirtual 42, 3) := by decide +kernel
theorem dX3_needWord_5 : decode cX3_needWord 5 = .ok (.ifCond .ne 7, 3) := by decide +kernel
theorem dX3_needWord_8 : decode cX3_needWord 8 = .ok (.aload_n 0, 1) := by decide +kernel
theorem dX3_needWord_9 : decode cX3_needWord 9 = .ok (.invokevirtual 69, 3) := by decide +kernel
theorem dX3_needWord_12 : decode cX3_needWord 12 = .ok (.return_, 1) := by decide +kernel
theorem dX3_takeNumber_0 : decode cX3_takeNumber 0 = .ok (.aload_n 0, 1) := by decide +kernel
theorem dX3_takeNumber_1 : decode cX3_takeNumber 1 = .ok (.invokevirtual 95, 3) := by decide +kernel
theorem dX3_takeNumber_4 : decode cX3_takeNumber 4 = .ok (.istore_n 3, 1) := by decide +kernel
theorem dX3_takeNumber_5 : decode cX3_takeNumber 5 = .ok (.aload_n 0, 1) := by decide +kernel
theorem dX3_takeNumber_6 : decode cX3_takeNumber 6 = .ok (.getfield 25, 3) := by decide +kernel
theorem dX3_takeNumber_9 : decode cX3_takeNumber 9 = .ok (.sipush (-1000), 3) := by decide +kernel
theorem dX3_takeNumber_12 : decode cX3_takeNumber 12 = .ok (.if_icmp .ne 13, 3) := by decide +kernel
theorem dX3_takeNumber_15 : decode cX3_takeNumber 15 = .ok (.iload_n 3, 1) := by decide +kernel
theorem dX3_takeNumber_16 : decode cX3_takeNumber 16 = .ok (.iload_n 1, 1) := by decide +kernel
theorem dX3_takeNumber_17 : decode cX3_takeNumber 17 = .ok (.if_icmp .lt 8, 3) := by decide +kernel
theorem dX3_takeNumber_20 : decode cX3_takeNumber 20 = .ok (.iload_n 3, 1) := by decide +kernel
theorem dX3_takeNumber_21 : decode cX3_takeNumber 21 = .ok (.iload_n 2, 1) := by decide +kernel
theorem dX3_takeNumber_22 : decode cX3_takeNumber 22 = .ok (.if_icmp .le 9, 3) := by decide +kernel
theorem dX3_takeNumber_25 : decode cX3_takeNumber 25 = .ok (.aload_n 0, 1) := by decide +kernel
theorem dX3_takeNumber_26 : decode cX3_takeNumber 26 = .ok (.invokevirtual 69, 3) := by decide +kernel
theorem dX3_takeNumber_29 : decode cX3_takeNumber 29 = .ok (.iconst 0, 1) := by decide +kernel
theorem dX3_takeNumber_30 : decode cX3_takeNumber 30 = .ok (.ireturn, 1) := by decide +kernel
theorem dX3_takeNumber_31 : decode cX3_takeNumber 31 = .ok (.aload_n 0, 1) := by decide +kernel
theorem dX3_takeNumber_32 : decode cX3_takeNumber 32 = .ok (.invokevirtual 32, 3) := by decide +kernel
theorem dX3_takeNumber_35 : decode cX3_takeNumber 35 = .ok (.iload_n 3, 1) := by decide +kernel
theorem dX3_takeNumber_36 : decode cX3_takeNumber 36 = .ok (.ireturn, 1) := by decide +kernel
theorem dX3_advance_0 : decode cX3_advance 0 = .ok (.aload_n 0, 1) := by decide +kernel
theorem dX3_advance_1 : decode cX3_advance 1 = .ok (.aload_n 0, 1) := by decide +kernel
theorem dX3_advance_2 : decode cX3_advance 2 = .ok (.getfield 29, 3) := by decide +kernel
theorem dX3_advance_5 : decode cX3_advance 5 = .ok (.putfield 66, 3) := by decide +kernel
theorem dX3_advance_8 : decode cX3_advance 8 = .ok (.aload_n 0, 1) := by decide +kernel
theorem dX3_advance_9 : decode cX3_advance 9 = .ok (.getfield 66, 3) := by decide +kernel
theorem dX3_advance_12 : decode cX3_advance 12 = .ok (.aload_n 0, 1) := by decide +kernel
theorem dX3_advance_13 : decode cX3_advance 13 = .ok (.getfield 18, 3) := by decide +kernel
theorem dX3_advance_16 : decode cX3_advance 16 = .ok (.invokevirtual 147, 3) := by decide +kernel
theorem dX3_advance_19 : decode cX3_advance 19 = .ok (.if_icmp .ge 32, 3) := by decide +kernel
theorem dX3_advance_22 : decode cX3_advance 22 = .ok (.aload_n 0, 1) := by decide +kernel
theorem dX3_advance_23 : decode cX3_advance 23 = .ok (.getfield 18, 3) := by decide +kernel
theorem dX3_advance_26 : decode cX3_advance 26 = .ok (.aload_n 0, 1) := by decide +kernel
theorem dX3_advance_27 : decode cX3_advance 27 = .ok (.getfield 66, 3) := by decide +kernel
theorem dX3_advance_30 : decode cX3_advance 30 = .ok (.invokevirtual 152, 3) := by decide +kernel
theorem dX3_advance_33 : decode cX3_advance 33 = .ok (.bipush 32, 2) := by decide +kernel
theorem dX3_advance_35 : decode cX3_advance 35 = .ok (.if_icmp .ne 16, 3) := by decide +kernel
theorem dX3_advance_38 : decode cX3_advance 38 = .ok (.aload_n 0, 1) := by decide +kernel
theorem dX3_advance_39 : decode cX3_advance 39 = .ok (.dup, 1) := by decide +kernel
theorem dX3_advance_40 : decode cX3_advance 40 = .ok (.getfield 66, 3) := by decide +kernel
theorem dX3_advance_43 : decode cX3_advance 43 = .ok (.iconst 1, 1) := by decide +kernel
theorem dX3_advance_44 : decode cX3_advance 44 = .ok (.iadd, 1) := by decide +kernel
theorem dX3_advance_45 : decode cX3_advance 45 = .ok (.putfield 66, 3) := by decide +kernel
theorem dX3_advance_48 : decode cX3_advance 48 = .ok (.goto (-40), 3) := by decide +kernel
theorem dX3_advance_51 : decode cX3_advance 51 = .ok (.aload_n 0, 1) := by decide +kernel
theorem dX3_advance_52 : decode cX3_advance 52 = .ok (.aload_n 0, 1) := by decide +kernel
theorem dX3_advance_53 : decode cX3_advance 53 = .ok (.getfield 66, 3) := by decide +kernel
theorem dX3_advance_56 : decode cX3_advance 56 = .ok (.putfield 29, 3) := by decide +kernel
theorem dX3_advance_59 : decode cX3_advance 59 = .ok (.aload_n 0, 1) := by decide +kernel
theorem dX3_advance_60 : decode cX3_advance 60 = .ok (.getfield 29, 3) := by decide +kernel
theorem dX3_advance_63 : decode cX3_advance 63 = .ok (.aload_n 0, 1) := by decide +kernel
theorem dX3_advance_64 : decode cX3_advance 64 = .ok (.getfield 18, 3) := by decide +kernel
theorem dX3_advance_67 : decode cX3_advance 67 = .ok (.invokevirtual 147, 3) := by decide +kernel
theorem dX3_advance_70 : decode cX3_advance 70 = .ok (.if_icmp .ge 32, 3) := by decide +kernel
theorem dX3_advance_73 : decode cX3_advance 73 = .ok (.aload_n 0, 1) := by decide +kernel
theorem dX3_advance_74 : decode cX3_advance 74 = .ok (.getfield 18, 3) := by decide +kernel
theorem dX3_advance_77 : decode cX3_advance 77 = .ok (.aload_n 0, 1) := by decide +kernel
theorem dX3_advance_78 : decode cX3_advance 78 = .ok (.getfield 29, 3) := by decide +kernel
theorem dX3_advance_81 : decode cX3_advance 81 = .ok (.invokevirtual 152, 3) := by decide +kernel
theorem dX3_advance_84 : decode cX3_advance 84 = .ok (.bipush 32, 2) := by decide +kernel
theorem dX3_advance_86 : decode cX3_advance 86 = .ok (.if_icmp .eq 16, 3) := by decide +kernel
theorem dX3_advance_89 : decode cX3_advance 89 = .ok (.aload_n 0, 1) := by decide +kernel
theorem dX3_advance_90 : decode cX3_advance 90 = .ok (.dup, 1) := by decide +kernel
theorem dX3_advance_91 : decode cX3_advance 91 = .ok (.getfield 29, 3) := by decide +kernel
theorem dX3_advance_94 : decode cX3_advance 94 = .ok (.iconst 1, 1) := by decide +kernel
theorem dX3_advance_95 : decode cX3_advance 95 = .ok (.iadd, 1) := by decide +kernel
theorem dX3_advance_96 : decode cX3_advance 96 = .ok (.putfield 29, 3) := by decide +kernel
theorem dX3_advance_99 : decode cX3_advance 99 = .ok (.goto (-40), 3) := by decide +kernel
theorem dX3_advance_102 : decode cX3_advance 102 = .ok (.return_, 1) := by decide +kernel
theorem dX3_isWord_0 : decode cX3_isWord 0 = .ok (.aload_n 0, 1) := by decide +kernel
theorem dX3_isWord_1 : decode cX3_isWord 1 = .ok (.getfield 29, 3) := by decide +kernel
theorem dX3_isWord_4 : decode cX3_isWord 4 = .ok (.aload_n 0, 1) := by decide +kernel
theorem dX3_isWord_5 : decode cX3_isWord 5 = .ok (.getfield 66, 3) := by decide +kernel
theorem dX3_isWord_8 : decode cX3_isWord 8 = .ok (.isub, 1) := by decide +kernel
theorem dX3_isWord_9 : decode cX3_isWord 9 = .ok (.aload_n 1, 1) := by decide +kernel
theorem dX3_isWord_10 : decode cX3_isWord 10 = .ok (.invokevirtual 155, 3) := by decide +kernel
theorem dX3_isWord_13 : decode cX3_isWord 13 = .ok (.if_icmp .eq 5, 3) := by decide +kernel
theorem dX3_isWord_16 : decode cX3_isWord 16 = .ok (.iconst 0, 1) := by decide +kernel
theorem dX3_isWord_17 : decode cX3_isWord 17 = .ok (.ireturn, 1) := by decide +kernel
theorem dX3_isWord_18 : decode cX3_isWord 18 = .ok (.iconst 0, 1) := by decide +kernel
theorem dX3_isWord_19 : decode cX3_isWord 19 = .ok (.istore_n 2, 1) := by decide +kernel
theorem dX3_isWord_20 : decode cX3_isWord 20 = .ok (.iload_n 2, 1) := by decide +kernel
theorem dX3_isWord_21 : decode cX3_isWord 21 = .ok (.aload_n 1, 1) := by decide +kernel
theorem dX3_isWord_22 : decode cX3_isWord 22 = .ok (.invokevirtual 155, 3) := by decide +kernel
theorem dX3_isWord_25 : decode cX3_isWord 25 = .ok (.if_icmp .ge 32, 3) := by decide +kernel
theorem dX3_isWord_28 : decode cX3_isWord 28 = .ok (.aload_n 0, 1) := by decide +kernel
theorem dX3_isWord_29 : decode cX3_isWord 29 = .ok (.getfield 18, 3) := by decide +kernel
theorem dX3_isWord_32 : decode cX3_isWord 32 = .ok (.aload_n 0, 1) := by decide +kernel
theorem dX3_isWord_33 : decode cX3_isWord 33 = .ok (.getfield 66, 3) := by decide +kernel
theorem dX3_isWord_36 : decode cX3_isWord 36 = .ok (.iload_n 2, 1) := by decide +kernel
theorem dX3_isWord_37 : decode cX3_isWord 37 = .ok (.iadd, 1) := by decide +kernel
theorem dX3_isWord_38 : decode cX3_isWord 38 = .ok (.invokevirtual 152, 3) := by decide +kernel
theorem dX3_isWord_41 : decode cX3_isWord 41 = .ok (.aload_n 1, 1) := by decide +kernel
theorem dX3_isWord_42 : decode cX3_isWord 42 = .ok (.iload_n 2, 1) := by decide +kernel
theorem dX3_isWord_43 : decode cX3_isWord 43 = .ok (.invokevirtual 158, 3) := by decide +kernel
theorem dX3_isWord_46 : decode cX3_isWord 46 = .ok (.if_icmp .eq 5, 3) := by decide +kernel
theorem dX3_isWord_49 : decode cX3_isWord 49 = .ok (.iconst 0, 1) := by decide +kernel
theorem dX3_isWord_50 : decode cX3_isWord 50 = .ok (.ireturn, 1) := by decide +kernel
theorem dX3_isWord_51 : decode cX3_isWord 51 = .ok (.iinc 2 1, 3) := by decide +kernel
theorem dX3_isWord_54 : decode cX3_isWord 54 = .ok (.goto (-34), 3) := by decide +kernel
theorem dX3_isWord_57 : decode cX3_isWord 57 = .ok (.iconst 1, 1) := by decide +kernel
theorem dX3_isWord_58 : decode cX3_isWord 58 = .ok (.ireturn, 1) := by decide +kernel
theorem dX3_step_0 : decode cX3_step 0 = .ok (.aload_n 0, 1) := by decide +kernel
theorem dX3_step_1 : decode cX3_step 1 = .ok (.getfield 29, 3) := by decide +kernel
theorem dX3_step_4 : decode cX3_step 4 = .ok (.aload_n 0, 1) := by decide +kernel
theorem dX3_step_5 : decode cX3_step 5 = .ok (.getfield 66, 3) := by decide +kernel
theorem dX3_step_8 : decode cX3_step 8 = .ok (.isub, 1) := by decide +kernel
theorem dX3_step_9 : decode cX3_step 9 = .ok (.iconst 1, 1) := by decide +kernel
theorem dX3_step_10 : decode cX3_step 10 = .ok (.if_icmp .ne 23, 3) := by decide +kernel
theorem dX3_step_13 : decode cX3_step 13 = .ok (.ldc 162, 2) := by decide +kernel
theorem dX3_step_15 : decode cX3_step 15 = .ok (.aload_n 0, 1) := by decide +kernel
theorem dX3_step_16 : decode cX3_step 16 = .ok (.getfield 18, 3) := by decide +kernel
theorem dX3_step_19 : decode cX3_step 19 = .ok (.aload_n 0, 1) := by decide +kernel
theorem dX3_step_20 : decode cX3_step 20 = .ok (.getfield 66, 3) := by decide +kernel
theorem dX3_step_23 : decode cX3_step 23 = .ok (.invokevirtual 152, 3) := by decide +kernel
theorem dX3_step_26 : decode cX3_step 26 = .ok (.i2c, 1) := by decide +kernel
theorem dX3_step_27 : decode cX3_step 27 = .ok (.invokevirtual 164, 3) := by decide +kernel
theorem dX3_step_30 : decode cX3_step 30 = .ok (.goto 4, 3) := by decide +kernel
theorem dX3_step_33 : decode cX3_step 33 = .ok (.iconst (-1), 1) := by decide +kernel
theorem dX3_step_34 : decode cX3_step 34 = .ok (.ireturn, 1) := by decide +kernel
theorem dX3_number_0 : decode cX3_number 0 = .ok (.aload_n 0, 1) := by decide +kernel
theorem dX3_number_1 : decode cX3_number 1 = .ok (.getfield 29, 3) := by decide +kernel
theorem dX3_number_4 : decode cX3_number 4 = .ok (.aload_n 0, 1) := by decide +kernel
theorem dX3_number_5 : decode cX3_number 5 = .ok (.getfield 66, 3) := by decide +kernel
theorem dX3_number_8 : decode cX3_number 8 = .ok (.if_icmp .eq 16, 3) := by decide +kernel
theorem dX3_number_11 : decode cX3_number 11 = .ok (.aload_n 0, 1) := by decide +kernel
theorem dX3_number_12 : decode cX3_number 12 = .ok (.getfield 29, 3) := by decide +kernel
theorem dX3_number_15 : decode cX3_number 15 = .ok (.aload_n 0, 1) := by decide +kernel
theorem dX3_number_16 : decode cX3_number 16 = .ok (.getfield 66, 3) := by decide +kernel
theorem dX3_number_19 : decode cX3_number 19 = .ok (.isub, 1) := by decide +kernel
theorem dX3_number_20 : decode cX3_number 20 = .ok (.iconst 3, 1) := by decide +kernel
theorem dX3_number_21 : decode cX3_number 21 = .ok (.if_icmp .le 5, 3) := by decide +kernel
theorem dX3_number_24 : decode cX3_number 24 = .ok (.iconst (-1), 1) := by decide +kernel
theorem dX3_number_25 : decode cX3_number 25 = .ok (.ireturn, 1) := by decide +kernel
theorem dX3_number_26 : decode cX3_number 26 = .ok (.iconst 0, 1) := by decide +kernel
theorem dX3_number_27 : decode cX3_number 27 = .ok (.istore_n 1, 1) := by decide +kernel
theorem dX3_number_28 : decode cX3_number 28 = .ok (.aload_n 0, 1) := by decide +kernel
theorem dX3_number_29 : decode cX3_number 29 = .ok (.getfield 66, 3) := by decide +kernel
theorem dX3_number_32 : decode cX3_number 32 = .ok (.istore_n 2, 1) := by decide +kernel
theorem dX3_number_33 : decode cX3_number 33 = .ok (.iload_n 2, 1) := by decide +kernel
theorem dX3_number_34 : decode cX3_number 34 = .ok (.aload_n 0, 1) := by decide +kernel
theorem dX3_number_35 : decode cX3_number 35 = .ok (.getfield 29, 3) := by decide +kernel
theorem dX3_number_38 : decode cX3_number 38 = .ok (.if_icmp .ge 40, 3) := by decide +kernel
theorem dX3_number_41 : decode cX3_number 41 = .ok (.aload_n 0, 1) := by decide +kernel
theorem dX3_number_42 : decode cX3_number 42 = .ok (.getfield 18, 3) := by decide +kernel
theorem dX3_number_45 : decode cX3_number 45 = .ok (.iload_n 2, 1) := by decide +kernel
theorem dX3_number_46 : decode cX3_number 46 = .ok (.invokevirtual 152, 3) := by decide +kernel
theorem dX3_number_49 : decode cX3_number 49 = .ok (.bipush 48, 2) := by decide +kernel
theorem dX3_number_51 : decode cX3_number 51 = .ok (.isub, 1) := by decide +kernel
theorem dX3_number_52 : decode cX3_number 52 = .ok (.istore_n 3, 1) := by decide +kernel
theorem dX3_number_53 : decode cX3_number 53 = .ok (.iload_n 3, 1) := by decide +kernel
theorem dX3_number_54 : decode cX3_number 54 = .ok (.ifCond .lt 9, 3) := by decide +kernel
theorem dX3_number_57 : decode cX3_number 57 = .ok (.iload_n 3, 1) := by decide +kernel
theorem dX3_number_58 : decode cX3_number 58 = .ok (.bipush 9, 2) := by decide +kernel
theorem dX3_number_60 : decode cX3_number 60 = .ok (.if_icmp .le 5, 3) := by decide +kernel
theorem dX3_number_63 : decode cX3_number 63 = .ok (.iconst (-1), 1) := by decide +kernel
theorem dX3_number_64 : decode cX3_number 64 = .ok (.ireturn, 1) := by decide +kernel
theorem dX3_number_65 : decode cX3_number 65 = .ok (.bipush 10, 2) := by decide +kernel
theorem dX3_number_67 : decode cX3_number 67 = .ok (.iload_n 1, 1) := by decide +kernel
theorem dX3_number_68 : decode cX3_number 68 = .ok (.imul, 1) := by decide +kernel
theorem dX3_number_69 : decode cX3_number 69 = .ok (.iload_n 3, 1) := by decide +kernel
theorem dX3_number_70 : decode cX3_number 70 = .ok (.iadd, 1) := by decide +kernel
theorem dX3_number_71 : decode cX3_number 71 = .ok (.istore_n 1, 1) := by decide +kernel
theorem dX3_number_72 : decode cX3_number 72 = .ok (.iinc 2 1, 3) := by decide +kernel
theorem dX3_number_75 : decode cX3_number 75 = .ok (.goto (-42), 3) := by decide +kernel
theorem dX3_number_78 : decode cX3_number 78 = .ok (.iload_n 1, 1) := by decide +kernel
theorem dX3_number_79 : decode cX3_number 79 = .ok (.ireturn, 1) := by decide +kernel
theorem dX4_init_0 : decode cX4_init 0 = .ok (.aload_n 0, 1) := by decide +kernel
theorem dX4_init_1 : decode cX4_init 1 = .ok (.invokespecial 3, 3) := by decide +kernel
theorem dX4_init_4 : decode cX4_init 4 = .ok (.aload_n 0, 1) := by decide +kernel
theorem dX4_init_5 : decode cX4_init 5 = .ok (.sipush 912, 3) := by decide +kernel
theorem dX4_init_8 : decode cX4_init 8 = .ok (.newarray .int, 2) := by decide +kernel
theorem dX4_init_10 : decode cX4_init 10 = .ok (.putfield 9, 3) := by decide +kernel
theorem dX4_init_13 : decode cX4_init 13 = .ok (.return_, 1) := by decide +kernel
theorem dX4_canHold_0 : decode cX4_canHold 0 = .ok (.iload_n 0, 1) := by decide +kernel
theorem dX4_canHold_1 : decode cX4_canHold 1 = .ok (.tableswitch 175 0 6 #[43, 61, 78, 106, 125, 140, 160], 43) := by decide +kernel
theorem dX4_canHold_44 : decode cX4_canHold 44 = .ok (.iload_n 1, 1) := by decide +kernel
theorem dX4_canHold_45 : decode cX4_canHold 45 = .ok (.bipush (-7), 2) := by decide +kernel
theorem dX4_canHold_47 : decode cX4_canHold 47 = .ok (.if_icmp .lt 13, 3) := by decide +kernel
theorem dX4_canHold_50 : decode cX4_canHold 50 = .ok (.iload_n 1, 1) := by decide +kernel
theorem dX4_canHold_51 : decode cX4_canHold 51 = .ok (.bipush 7, 2) := by decide +kernel
theorem dX4_canHold_53 : decode cX4_canHold 53 = .ok (.if_icmp .gt 7, 3) := by decide +kernel
theorem dX4_canHold_56 : decode cX4_canHold 56 = .ok (.iconst 1, 1) := by decide +kernel
theorem dX4_canHold_57 : decode cX4_canHold 57 = .ok (.goto 4, 3) := by decide +kernel
theorem dX4_canHold_60 : decode cX4_canHold 60 = .ok (.iconst 0, 1) := by decide +kernel
theorem dX4_canHold_61 : decode cX4_canHold 61 = .ok (.ireturn, 1) := by decide +kernel
theorem dX4_canHold_62 : decode cX4_canHold 62 = .ok (.iload_n 1, 1) := by decide +kernel
theorem dX4_canHold_63 : decode cX4_canHold 63 = .ok (.iconst 1, 1) := by decide +kernel
theorem dX4_canHold_64 : decode cX4_canHold 64 = .ok (.if_icmp .lt 13, 3) := by decide +kernel
theorem dX4_canHold_67 : decode cX4_canHold 67 = .ok (.iload_n 1, 1) := by decide +kernel
theorem dX4_canHold_68 : decode cX4_canHold 68 = .ok (.bipush 12, 2) := by decide +kernel
theorem dX4_canHold_70 : decode cX4_canHold 70 = .ok (.if_icmp .gt 7, 3) := by decide +kernel
theorem dX4_canHold_73 : decode cX4_canHold 73 = .ok (.iconst 1, 1) := by decide +kernel
theorem dX4_canHold_74 : decode cX4_canHold 74 = .ok (.goto 4, 3) := by decide +kernel
theorem dX4_canHold_77 : decode cX4_canHold 77 = .ok (.iconst 0, 1) := by decide +kernel
theorem dX4_canHold_78 : decode cX4_canHold 78 = .ok (.ireturn, 1) := by decide +kernel
theorem dX4_canHold_79 : decode cX4_canHold 79 = .ok (.iload_n 1, 1) := by decide +kernel
theorem dX4_canHold_80 : decode cX4_canHold 80 = .ok (.iconst 2, 1) := by decide +kernel
theorem dX4_canHold_81 : decode cX4_canHold 81 = .ok (.if_icmp .eq 20, 3) := by decide +kernel
theorem dX4_canHold_84 : decode cX4_canHold 84 = .ok (.iload_n 1, 1) := by decide +kernel
theorem dX4_canHold_85 : decode cX4_canHold 85 = .ok (.iconst 4, 1) := by decide +kernel
theorem dX4_canHold_86 : decode cX4_canHold 86 = .ok (.if_icmp .eq 15, 3) := by decide +kernel
theorem dX4_canHold_89 : decode cX4_canHold 89 = .ok (.iload_n 1, 1) := by decide +kernel
theorem dX4_canHold_90 : decode cX4_canHold 90 = .ok (.bipush 8, 2) := by decide +kernel
theorem dX4_canHold_92 : decode cX4_canHold 92 = .ok (.if_icmp .eq 9, 3) := by decide +kernel
theorem dX4_canHold_95 : decode cX4_canHold 95 = .ok (.iload_n 1, 1) := by decide +kernel
theorem dX4_canHold_96 : decode cX4_canHold 96 = .ok (.bipush 16, 2) := by decide +kernel
theorem dX4_canHold_98 : decode cX4_canHold 98 = .ok (.if_icmp .ne 7, 3) := by decide +kernel
theorem dX4_canHold_101 : decode cX4_canHold 101 = .ok (.iconst 1, 1) := by decide +kernel
theorem dX4_canHold_102 : decode cX4_canHold 102 = .ok (.goto 4, 3) := by decide +kernel
theorem dX4_canHold_105 : decode cX4_canHold 105 = .ok (.iconst 0, 1) := by decide +kernel
theorem dX4_canHold_106 : decode cX4_canHold 106 = .ok (.ireturn, 1) := by decide +kernel
theorem dX4_canHold_107 : decode cX4_canHold 107 = .ok (.iload_n 1, 1) := by decide +kernel
theorem dX4_canHold_108 : decode cX4_canHold 108 = .ok (.bipush 20, 2) := by decide +kernel
theorem dX4_canHold_110 : decode cX4_canHold 110 = .ok (.if_icmp .lt 14, 3) := by decide +kernel
theorem dX4_canHold_113 : decode cX4_canHold 113 = .ok (.iload_n 1, 1) := by decide +kernel
theorem dX4_canHold_114 : decode cX4_canHold 114 = .ok (.sipush 300, 3) := by decide +kernel
theorem dX4_canHold_117 : decode cX4_canHold 117 = .ok (.if_icmp .gt 7, 3) := by decide +kernel
theorem dX4_canHold_120 : decode cX4_canHold 120 = .ok (.iconst 1, 1) := by decide +kernel
theorem dX4_canHold_121 : decode cX4_canHold 121 = .ok (.goto 4, 3) := by decide +kernel
theorem dX4_canHold_124 : decode cX4_canHold 124 = .ok (.iconst 0, 1) := by decide +kernel
theorem dX4_canHold_125 : decode cX4_canHold 125 = .ok (.ireturn, 1) := by decide +kernel
theorem dX4_canHold_126 : decode cX4_canHold 126 = .ok (.iload_n 1, 1) := by decide +kernel
theorem dX4_canHold_127 : decode cX4_canHold 127 = .ok (.ifCond .eq 8, 3) := by decide +kernel
theorem dX4_canHold_130 : decode cX4_canHold 130 = .ok (.iload_n 1, 1) := by decide +kernel
theorem dX4_canHold_131 : decode cX4_canHold 131 = .ok (.iconst 1, 1) := by decide +kernel
theorem dX4_canHold_132 : decode cX4_canHold 132 = .ok (.if_icmp .ne 7, 3) := by decide +kernel
theorem dX4_canHold_135 : decode cX4_canHold 135 = .ok (.iconst 1, 1) := by decide +kernel
theorem dX4_canHold_136 : decode cX4_canHold 136 = .ok (.goto 4, 3) := by decide +kernel
theorem dX4_canHold_139 : decode cX4_canHold 139 = .ok (.iconst 0, 1) := by decide +kernel
theorem dX4_canHold_140 : decode cX4_canHold 140 = .ok (.ireturn, 1) := by decide +kernel
theorem dX4_canHold_141 : decode cX4_canHold 141 = .ok (.iload_n 1, 1) := by decide +kernel
theorem dX4_canHold_142 : decode cX4_canHold 142 = .ok (.ifCond .eq 13, 3) := by decide +kernel
theorem dX4_canHold_145 : decode cX4_canHold 145 = .ok (.iload_n 1, 1) := by decide +kernel
theorem dX4_canHold_146 : decode cX4_canHold 146 = .ok (.iconst 2, 1) := by decide +kernel
theorem dX4_canHold_147 : decode cX4_canHold 147 = .ok (.if_icmp .lt 12, 3) := by decide +kernel
theorem dX4_canHold_150 : decode cX4_canHold 150 = .ok (.iload_n 1, 1) := by decide +kernel
theorem dX4_canHold_151 : decode cX4_canHold 151 = .ok (.iconst 4, 1) := by decide +kernel
theorem dX4_canHold_152 : decode cX4_canHold 152 = .ok (.if_icmp .gt 7, 3) := by decide +kernel
theorem dX4_canHold_155 : decode cX4_canHold 155 = .ok (.iconst 1, 1) := by decide +kernel
theorem dX4_canHold_156 : decode cX4_canHold 156 = .ok (.goto 4, 3) := by decide +kernel
theorem dX4_canHold_159 : decode cX4_canHold 159 = .ok (.iconst 0, 1) := by decide +kernel
theorem dX4_canHold_160 : decode cX4_canHold 160 = .ok (.ireturn, 1) := by decide +kernel
theorem dX4_canHold_161 : decode cX4_canHold 161 = .ok (.iload_n 1, 1) := by decide +kernel
theorem dX4_canHold_162 : decode cX4_canHold 162 = .ok (.ifCond .lt 12, 3) := by decide +kernel
theorem dX4_canHold_165 : decode cX4_canHold 165 = .ok (.iload_n 1, 1) := by decide +kernel
theorem dX4_canHold_166 : decode cX4_canHold 166 = .ok (.iconst 4, 1) := by decide +kernel
theorem dX4_canHold_167 : decode cX4_canHold 167 = .ok (.if_icmp .gt 7, 3) := by decide +kernel
theorem dX4_canHold_170 : decode cX4_canHold 170 = .ok (.iconst 1, 1) := by decide +kernel
theorem dX4_canHold_171 : decode cX4_canHold 171 = .ok (.goto 4, 3) := by decide +kernel
theorem dX4_canHold_174 : decode cX4_canHold 174 = .ok (.iconst 0, 1) := by decide +kernel
theorem dX4_canHold_175 : decode cX4_canHold 175 = .ok (.ireturn, 1) := by decide +kernel
theorem dX4_canHold_176 : decode cX4_canHold 176 = .ok (.iconst 0, 1) := by decide +kernel
theorem dX4_canHold_177 : decode cX4_canHold 177 = .ok (.ireturn, 1) := by decide +kernel
theorem dX4_size_0 : decode cX4_size 0 = .ok (.aload_n 0, 1) := by decide +kernel
theorem dX4_size_1 : decode cX4_size 1 = .ok (.getfield 13, 3) := by decide +kernel
theorem dX4_size_4 : decode cX4_size 4 = .ok (.ireturn, 1) := by decide +kernel
theorem dX4_isFull_0 : decode cX4_isFull 0 = .ok (.aload_n 0, 1) := by decide +kernel
theorem dX4_isFull_1 : decode cX4_isFull 1 = .ok (.getfield 13, 3) := by decide +kernel
theorem dX4_isFull_4 : decode cX4_isFull 4 = .ok (.bipush 16, 2) := by decide +kernel
theorem dX4_isFull_6 : decode cX4_isFull 6 = .ok (.if_icmp .lt 7, 3) := by decide +kernel
theorem dX4_isFull_9 : decode cX4_isFull 9 = .ok (.iconst 1, 1) := by decide +kernel
theorem dX4_isFull_10 : decode cX4_isFull 10 = .ok (.goto 4, 3) := by decide +kernel
theorem dX4_isFull_13 : decode cX4_isFull 13 = .ok (.iconst 0, 1) := by decide +kernel
theorem dX4_isFull_14 : decode cX4_isFull 14 = .ok (.ireturn, 1) := by decide +kernel
theorem dX4_hasMeasure_0 : decode cX4_hasMeasure 0 = .ok (.iload_n 1, 1) := by decide +kernel
theorem dX4_hasMeasure_1 : decode cX4_hasMeasure 1 = .ok (.ifCond .lt 15, 3) := by decide +kernel
theorem dX4_hasMeasure_4 : decode cX4_hasMeasure 4 = .ok (.iload_n 1, 1) := by decide +kernel
theorem dX4_hasMeasure_5 : decode cX4_hasMeasure 5 = .ok (.aload_n 0, 1) := by decide +kernel
theorem dX4_hasMeasure_6 : decode cX4_hasMeasure 6 = .ok (.getfield 13, 3) := by decide +kernel
theorem dX4_hasMeasure_9 : decode cX4_hasMeasure 9 = .ok (.if_icmp .ge 7, 3) := by decide +kernel
theorem dX4_hasMeasure_12 : decode cX4_hasMeasure 12 = .ok (.iconst 1, 1) := by decide +kernel
theorem dX4_hasMeasure_13 : decode cX4_hasMeasure 13 = .ok (.goto 4, 3) := by decide +kernel
theorem dX4_hasMeasure_16 : decode cX4_hasMeasure 16 = .ok (.iconst 0, 1) := by decide +kernel
theorem dX4_hasMeasure_17 : decode cX4_hasMeasure 17 = .ok (.ireturn, 1) := by decide +kernel
theorem dX4_hasVoice_0 : decode cX4_hasVoice 0 = .ok (.aload_n 0, 1) := by decide +kernel
theorem dX4_hasVoice_1 : decode cX4_hasVoice 1 = .ok (.iload_n 1, 1) := by decide +kernel
theorem dX4_hasVoice_2 : decode cX4_hasVoice 2 = .ok (.iload_n 2, 1) := by decide +kernel
theorem dX4_hasVoice_3 : decode cX4_hasVoice 3 = .ok (.invokevirtual 17, 3) := by decide +kernel
theorem dX4_hasVoice_6 : decode cX4_hasVoice 6 = .ok (.ifCond .lt 7, 3) := by decide +kernel
theorem dX4_hasVoice_9 : decode cX4_hasVoice 9 = .ok (.iconst 1, 1) := by decide +kernel
theorem dX4_hasVoice_10 : decode cX4_hasVoice 10 = .ok (.goto 4, 3) := by decide +kernel
theorem dX4_hasVoice_13 : decode cX4_hasVoice 13 = .ok (.iconst 0, 1) := by decide +kernel
theorem dX4_hasVoice_14 : decode cX4_hasVoice 14 = .ok (.ireturn, 1) := by decide +kernel
theorem dX4_hasEvent_0 : decode cX4_hasEvent 0 = .ok (.iload_n 3, 1) := by decide +kernel
theorem dX4_hasEvent_1 : decode cX4_hasEvent 1 = .ok (.ifCond .lt 17, 3) := by decide +kernel
theorem dX4_hasEvent_4 : decode cX4_hasEvent 4 = .ok (.iload_n 3, 1) := by decide +kernel
theorem dX4_hasEvent_5 : decode cX4_hasEvent 5 = .ok (.aload_n 0, 1) := by decide +kernel
theorem dX4_hasEvent_6 : decode cX4_hasEvent 6 = .ok (.iload_n 1, 1) := by decide +kernel
theorem dX4_hasEvent_7 : decode cX4_hasEvent 7 = .ok (.iload_n 2, 1) := by decide +kernel
theorem dX4_hasEvent_8 : decode cX4_hasEvent 8 = .ok (.invokevirtual 21, 3) := by decide +kernel
theorem dX4_hasEvent_11 : decode cX4_hasEvent 11 = .ok (.if_icmp .ge 7, 3) := by decide +kernel
theorem dX4_hasEvent_14 : decode cX4_hasEvent 14 = .ok (.iconst 1, 1) := by decide +kernel
theorem dX4_hasEvent_15 : decode cX4_hasEvent 15 = .ok (.goto 4, 3) := by decide +kernel
theorem dX4_hasEvent_18 : decode cX4_hasEvent 18 = .ok (.iconst 0, 1) := by decide +kernel
theorem dX4_hasEvent_19 : decode cX4_hasEvent 19 = .ok (.ireturn, 1) := by decide +kernel
theorem dX4_value_0 : decode cX4_value 0 = .ok (.aload_n 0, 1) := by decide +kernel
theorem dX4_value_1 : decode cX4_value 1 = .ok (.iload_n 1, 1) := by decide +kernel
theorem dX4_value_2 : decode cX4_value 2 = .ok (.invokevirtual 24, 3) := by decide +kernel
theorem dX4_value_5 : decode cX4_value 5 = .ok (.ifCond .eq 27, 3) := by decide +kernel
theorem dX4_value_8 : decode cX4_value 8 = .ok (.iload_n 2, 1) := by decide +kernel
theorem dX4_value_9 : decode cX4_value 9 = .ok (.ifCond .lt 23, 3) := by decide +kernel
theorem dX4_value_12 : decode cX4_value 12 = .ok (.iload_n 2, 1) := by decide +kernel
theorem dX4_value_13 : decode cX4_value 13 = .ok (.bipush 7, 2) := by decide +kernel
theorem dX4_value_15 : decode cX4_value 15 = .ok (.if_icmp .ge 17, 3) := by decide +kernel
theorem dX4_value_18 : decode cX4_value 18 = .ok (.aload_n 0, 1) := by decide +kernel
theorem dX4_value_19 : decode cX4_value 19 = .ok (.getfield 9, 3) := by decide +kernel
theorem dX4_value_22 : decode cX4_value 22 = .ok (.iload_n 1, 1) := by decide +kernel
theorem dX4_value_23 : decode cX4_value 23 = .ok (.bipush 57, 2) := by decide +kernel
theorem dX4_value_25 : decode cX4_value 25 = .ok (.imul, 1) := by decide +kernel
theorem dX4_value_26 : decode cX4_value 26 = .ok (.iload_n 2, 1) := by decide +kernel
theorem dX4_value_27 : decode cX4_value 27 = .ok (.iadd, 1) := by decide +kernel
theorem dX4_value_28 : decode cX4_value 28 = .ok (.iaload, 1) := by decide +kernel
theorem dX4_value_29 : decode cX4_value 29 = .ok (.goto 4, 3) := by decide +kernel
theorem dX4_value_32 : decode cX4_value 32 = .ok (.iconst 0, 1) := by decide +kernel
theorem dX4_value_33 : decode cX4_value 33 = .ok (.ireturn, 1) := by decide +kernel
theorem dX4_putValue_0 : decode cX4_putValue 0 = .ok (.aload_n 0, 1) := by decide +kernel
theorem dX4_putValue_1 : decode cX4_putValue 1 = .ok (.iload_n 1, 1) := by decide +kernel
theorem dX4_putValue_2 : decode cX4_putValue 2 = .ok (.invokevirtual 24, 3) := by decide +kernel
theorem dX4_putValue_5 : decode cX4_putValue 5 = .ok (.ifCond .eq 25, 3) := by decide +kernel
theorem dX4_putValue_8 : decode cX4_putValue 8 = .ok (.iload_n 2, 1) := by decide +kernel
theorem dX4_putValue_9 : decode cX4_putValue 9 = .ok (.ifCond .lt 21, 3) := by decide +kernel
theorem dX4_putValue_12 : decode cX4_putValue 12 = .ok (.iload_n 2, 1) := by decide +kernel
theorem dX4_putValue_13 : decode cX4_putValue 13 = .ok (.bipush 7, 2) := by decide +kernel
theorem dX4_putValue_15 : decode cX4_putValue 15 = .ok (.if_icmp .ge 15, 3) := by decide +kernel
theorem dX4_putValue_18 : decode cX4_putValue 18 = .ok (.aload_n 0, 1) := by decide +kernel
theorem dX4_putValue_19 : decode cX4_putValue 19 = .ok (.getfield 9, 3) := by decide +kernel
theorem dX4_putValue_22 : decode cX4_putValue 22 = .ok (.iload_n 1, 1) := by decide +kernel
theorem dX4_putValue_23 : decode cX4_putValue 23 = .ok (.bipush 57, 2) := by decide +kernel
theorem dX4_putValue_25 : decode cX4_putValue 25 = .ok (.imul, 1) := by decide +kernel
theorem dX4_putValue_26 : decode cX4_putValue 26 = .ok (.iload_n 2, 1) := by decide +kernel
theorem dX4_putValue_27 : decode cX4_putValue 27 = .ok (.iadd, 1) := by decide +kernel
theorem dX4_putValue_28 : decode cX4_putValue 28 = .ok (.iload_n 3, 1) := by decide +kernel
theorem dX4_putValue_29 : decode cX4_putValue 29 = .ok (.iastore, 1) := by decide +kernel
theorem dX4_putValue_30 : decode cX4_putValue 30 = .ok (.return_, 1) := by decide +kernel
theorem dX4_count_0 : decode cX4_count 0 = .ok (.aload_n 0, 1) := by decide +kernel
theorem dX4_count_1 : decode cX4_count 1 = .ok (.iload_n 1, 1) := by decide +kernel
theorem dX4_count_2 : decode cX4_count 2 = .ok (.iload_n 2, 1) := by decide +kernel
theorem dX4_count_3 : decode cX4_count 3 = .ok (.invokevirtual 17, 3) := by decide +kernel
theorem dX4_count_6 : decode cX4_count 6 = .ok (.istore_n 3, 1) := by decide +kernel
theorem dX4_count_7 : decode cX4_count 7 = .ok (.iload_n 3, 1) := by decide +kernel
theorem dX4_count_8 : decode cX4_count 8 = .ok (.ifCond .lt 12, 3) := by decide +kernel
theorem dX4_count_11 : decode cX4_count 11 = .ok (.aload_n 0, 1) := by decide +kernel
theorem dX4_count_12 : decode cX4_count 12 = .ok (.getfield 9, 3) := by decide +kernel
theorem dX4_count_15 : decode cX4_count 15 = .ok (.iload_n 3, 1) := by decide +kernel
theorem dX4_count_16 : decode cX4_count 16 = .ok (.iaload, 1) := by decide +kernel
theorem dX4_count_17 : decode cX4_count 17 = .ok (.goto 4, 3) := by decide +kernel
theorem dX4_count_20 : decode cX4_count 20 = .ok (.iconst 0, 1) := by decide +kernel
theorem dX4_count_21 : decode cX4_count 21 = .ok (.ireturn, 1) := by decide +kernel
theorem dX4_code_0 : decode cX4_code 0 = .ok (.aload_n 0, 1) := by decide +kernel
theorem dX4_code_1 : decode cX4_code 1 = .ok (.iload_n 1, 1) := by decide +kernel
theorem dX4_code_2 : decode cX4_code 2 = .ok (.iload_n 2, 1) := by decide +kernel
theorem dX4_code_3 : decode cX4_code 3 = .ok (.invokevirtual 17, 3) := by decide +kernel
theorem dX4_code_6 : decode cX4_code 6 = .ok (.istore 4, 2) := by decide +kernel
theorem dX4_code_8 : decode cX4_code 8 = .ok (.iload 4, 2) := by decide +kernel
theorem dX4_code_10 : decode cX4_code 10 = .ok (.ifCond .lt 32, 3) := by decide +kernel
theorem dX4_code_13 : decode cX4_code 13 = .ok (.iload_n 3, 1) := by decide +kernel
theorem dX4_code_14 : decode cX4_code 14 = .ok (.ifCond .lt 28, 3) := by decide +kernel
theorem dX4_code_17 : decode cX4_code 17 = .ok (.iload_n 3, 1) := by decide +kernel
theorem dX4_code_18 : decode cX4_code 18 = .ok (.aload_n 0, 1) := by decide +kernel
theorem dX4_code_19 : decode cX4_code 19 = .ok (.getfield 9, 3) := by decide +kernel
theorem dX4_code_22 : decode cX4_code 22 = .ok (.iload 4, 2) := by decide +kernel
theorem dX4_code_24 : decode cX4_code 24 = .ok (.iaload, 1) := by decide +kernel
theorem dX4_code_25 : decode cX4_code 25 = .ok (.if_icmp .ge 17, 3) := by decide +kernel
theorem dX4_code_28 : decode cX4_code 28 = .ok (.aload_n 0, 1) := by decide +kernel
theorem dX4_code_29 : decode cX4_code 29 = .ok (.getfield 9, 3) := by decide +kernel
theorem dX4_code_32 : decode cX4_code 32 = .ok (.iload 4, 2) := by decide +kernel
theorem dX4_code_34 : decode cX4_code 34 = .ok (.iconst 1, 1) := by decide +kernel
theorem dX4_code_35 : decode cX4_code 35 = .ok (.iadd, 1) := by decide +kernel
theorem dX4_code_36 : decode cX4_code 36 = .ok (.iload_n 3, 1) := by decide +kernel
theorem dX4_code_37 : decode cX4_code 37 = .ok (.iadd, 1) := by decide +kernel
theorem dX4_code_38 : decode cX4_code 38 = .ok (.iaload, 1) := by decide +kernel
theorem dX4_code_39 : decode cX4_code 39 = .ok (.goto 4, 3) := by decide +kernel
theorem dX4_code_42 : decode cX4_code 42 = .ok (.iconst 0, 1) := by decide +kernel
theorem dX4_code_43 : decode cX4_code 43 = .ok (.ireturn, 1) := by decide +kernel
theorem dX4_voiceCell_0 : decode cX4_voiceCell 0 = .ok (.iload_n 1, 1) := by decide +kernel
theorem dX4_voiceCell_1 : decode cX4_voiceCell 1 = .ok (.ifCond .lt 24, 3) := by decide +kernel
theorem dX4_voiceCell_4 : decode cX4_voiceCell 4 = .ok (.iload_n 1, 1) := by decide +kernel
theorem dX4_voiceCell_5 : decode cX4_voiceCell 5 = .ok (.aload_n 0, 1) := by decide +kernel
theorem dX4_voiceCell_6 : decode cX4_voiceCell 6 = .ok (.getfield 13, 3) := by decide +kernel
theorem dX4_voiceCell_9 : decode cX4_voiceCell 9 = .ok (.if_icmp .ge 16, 3) := by decide +kernel
theorem dX4_voiceCell_12 : decode cX4_voiceCell 12 = .ok (.iload_n 2, 1) := by decide +kernel
theorem dX4_voiceCell_13 : decode cX4_voiceCell 13 = .ok (.ifCond .lt 12, 3) := by decide +kernel
theorem dX4_voiceCell_16 : decode cX4_voiceCell 16 = .ok (.iload_n 2, 1) := by decide +kernel
theorem dX4_voiceCell_17 : decode cX4_voiceCell 17 = .ok (.iconst 2, 1) := by decide +kernel
theorem dX4_voiceCell_18 : decode cX4_voiceCell 18 = .ok (.if_icmp .ge 7, 3) := by decide +kernel
theorem dX4_voiceCell_21 : decode cX4_voiceCell 21 = .ok (.iconst 1, 1) := by decide +kernel
theorem dX4_voiceCell_22 : decode cX4_voiceCell 22 = .ok (.goto 4, 3) := by decide +kernel
theorem dX4_voiceCell_25 : decode cX4_voiceCell 25 = .ok (.iconst 0, 1) := by decide +kernel
theorem dX4_voiceCell_26 : decode cX4_voiceCell 26 = .ok (.istore_n 3, 1) := by decide +kernel
theorem dX4_voiceCell_27 : decode cX4_voiceCell 27 = .ok (.iload_n 3, 1) := by decide +kernel
theorem dX4_voiceCell_28 : decode cX4_voiceCell 28 = .ok (.ifCond .eq 18, 3) := by decide +kernel
theorem dX4_voiceCell_31 : decode cX4_voiceCell 31 = .ok (.iload_n 1, 1) := by decide +kernel
theorem dX4_voiceCell_32 : decode cX4_voiceCell 32 = .ok (.bipush 57, 2) := by decide +kernel
theorem dX4_voiceCell_34 : decode cX4_voiceCell 34 = .ok (.imul, 1) := by decide +kernel
theorem dX4_voiceCell_35 : decode cX4_voiceCell 35 = .ok (.bipush 7, 2) := by decide +kernel
theorem dX4_voiceCell_37 : decode cX4_voiceCell 37 = .ok (.iadd, 1) := by decide +kernel
theorem dX4_voiceCell_38 : decode cX4_voiceCell 38 = .ok (.iload_n 2, 1) := by decide +kernel
theorem dX4_voiceCell_39 : decode cX4_voiceCell 39 = .ok (.bipush 25, 2) := by decide +kernel
theorem dX4_voiceCell_41 : decode cX4_voiceCell 41 = .ok (.imul, 1) := by decide +kernel
theorem dX4_voiceCell_42 : decode cX4_voiceCell 42 = .ok (.iadd, 1) := by decide +kernel
theorem dX4_voiceCell_43 : decode cX4_voiceCell 43 = .ok (.goto 4, 3) := by decide +kernel
theorem dX4_voiceCell_46 : decode cX4_voiceCell 46 = .ok (.iconst (-1), 1) := by decide +kernel
theorem dX4_voiceCell_47 : decode cX4_voiceCell 47 = .ok (.ireturn, 1) := by decide +kernel
theorem dX4_appendMeasure_0 : decode cX4_appendMeasure 0 = .ok (.aload_n 0, 1) := by decide +kernel
theorem dX4_appendMeasure_1 : decode cX4_appendMeasure 1 = .ok (.invokevirtual 30, 3) := by decide +kernel
theorem dX4_appendMeasure_4 : decode cX4_appendMeasure 4 = .ok (.ifCond .eq 4, 3) := by decide +kernel
theorem dX4_appendMeasure_7 : decode cX4_appendMeasure 7 = .ok (.return_, 1) := by decide +kernel
theorem dX4_appendMeasure_8 : decode cX4_appendMeasure 8 = .ok (.aload_n 0, 1) := by decide +kernel
theorem dX4_appendMeasure_9 : decode cX4_appendMeasure 9 = .ok (.getfield 13, 3) := by decide +kernel
theorem dX4_appendMeasure_12 : decode cX4_appendMeasure 12 = .ok (.iconst 1, 1) := by decide +kernel
theorem dX4_appendMeasure_13 : decode cX4_appendMeasure 13 = .ok (.isub, 1) := by decide +kernel
theorem dX4_appendMeasure_14 : decode cX4_appendMeasure 14 = .ok (.istore_n 1, 1) := by decide +kernel
theorem dX4_appendMeasure_15 : decode cX4_appendMeasure 15 = .ok (.aload_n 0, 1) := by decide +kernel
theorem dX4_appendMeasure_16 : decode cX4_appendMeasure 16 = .ok (.getfield 9, 3) := by decide +kernel
theorem dX4_appendMeasure_19 : decode cX4_appendMeasure 19 = .ok (.aload_n 0, 1) := by decide +kernel
theorem dX4_appendMeasure_20 : decode cX4_appendMeasure 20 = .ok (.getfield 13, 3) := by decide +kernel
theorem dX4_appendMeasure_23 : decode cX4_appendMeasure 23 = .ok (.bipush 57, 2) := by decide +kernel
theorem dX4_appendMeasure_25 : decode cX4_appendMeasure 25 = .ok (.imul, 1) := by decide +kernel
theorem dX4_appendMeasure_26 : decode cX4_appendMeasure 26 = .ok (.aload_n 0, 1) := by decide +kernel
theorem dX4_appendMeasure_27 : decode cX4_appendMeasure 27 = .ok (.getfield 13, 3) := by decide +kernel
theorem dX4_appendMeasure_30 : decode cX4_appendMeasure 30 = .ok (.iconst 1, 1) := by decide +kernel
theorem dX4_appendMeasure_31 : decode cX4_appendMeasure 31 = .ok (.iadd, 1) := by decide +kernel
theorem dX4_appendMeasure_32 : decode cX4_appendMeasure 32 = .ok (.bipush 57, 2) := by decide +kernel
theorem dX4_appendMeasure_34 : decode cX4_appendMeasure 34 = .ok (.imul, 1) := by decide +kernel
theorem dX4_appendMeasure_35 : decode cX4_appendMeasure 35 = .ok (.iconst 0, 1) := by decide +kernel
theorem dX4_appendMeasure_36 : decode cX4_appendMeasure 36 = .ok (.invokestatic 34, 3) := by decide +kernel
theorem dX4_appendMeasure_39 : decode cX4_appendMeasure 39 = .ok (.aload_n 0, 1) := by decide +kernel
theorem dX4_appendMeasure_40 : decode cX4_appendMeasure 40 = .ok (.dup, 1) := by decide +kernel
theorem dX4_appendMeasure_41 : decode cX4_appendMeasure 41 = .ok (.getfield 13, 3) := by decide +kernel
theorem dX4_appendMeasure_44 : decode cX4_appendMeasure 44 = .ok (.iconst 1, 1) := by decide +kernel
theorem dX4_appendMeasure_45 : decode cX4_appendMeasure 45 = .ok (.iadd, 1) := by decide +kernel
theorem dX4_appendMeasure_46 : decode cX4_appendMeasure 46 = .ok (.putfield 13, 3) := by decide +kernel
theorem dX4_appendMeasure_49 : decode cX4_appendMeasure 49 = .ok (.iload_n 1, 1) := by decide +kernel
theorem dX4_appendMeasure_50 : decode cX4_appendMeasure 50 = .ok (.ifCond .ge 7, 3) := by decide +kernel
theorem dX4_appendMeasure_53 : decode cX4_appendMeasure 53 = .ok (.iconst 1, 1) := by decide +kernel
theorem dX4_appendMeasure_54 : decode cX4_appendMeasure 54 = .ok (.goto 4, 3) := by decide +kernel
theorem dX4_appendMeasure_57 : decode cX4_appendMeasure 57 = .ok (.iconst 0, 1) := by decide +kernel
theorem dX4_appendMeasure_58 : decode cX4_appendMeasure 58 = .ok (.istore_n 2, 1) := by decide +kernel
theorem dX4_appendMeasure_59 : decode cX4_appendMeasure 59 = .ok (.aload_n 0, 1) := by decide +kernel
theorem dX4_appendMeasure_60 : decode cX4_appendMeasure 60 = .ok (.aload_n 0, 1) := by decide +kernel
theorem dX4_appendMeasure_61 : decode cX4_appendMeasure 61 = .ok (.getfield 13, 3) := by decide +kernel
theorem dX4_appendMeasure_64 : decode cX4_appendMeasure 64 = .ok (.iconst 1, 1) := by decide +kernel
theorem dX4_appendMeasure_65 : decode cX4_appendMeasure 65 = .ok (.isub, 1) := by decide +kernel
theorem dX4_appendMeasure_66 : decode cX4_appendMeasure 66 = .ok (.iconst 0, 1) := by decide +kernel
theorem dX4_appendMeasure_67 : decode cX4_appendMeasure 67 = .ok (.iload_n 2, 1) := by decide +kernel
theorem dX4_appendMeasure_68 : decode cX4_appendMeasure 68 = .ok (.ifCond .eq 7, 3) := by decide +kernel
theorem dX4_appendMeasure_71 : decode cX4_appendMeasure 71 = .ok (.iconst 0, 1) := by decide +kernel
theorem dX4_appendMeasure_72 : decode cX4_appendMeasure 72 = .ok (.goto 9, 3) := by decide +kernel
theorem dX4_appendMeasure_75 : decode cX4_appendMeasure 75 = .ok (.aload_n 0, 1) := by decide +kernel
theorem dX4_appendMeasure_76 : decode cX4_appendMeasure 76 = .ok (.iload_n 1, 1) := by decide +kernel
theorem dX4_appendMeasure_77 : decode cX4_appendMeasure 77 = .ok (.iconst 0, 1) := by decide +kernel
theorem dX4_appendMeasure_78 : decode cX4_appendMeasure 78 = .ok (.invokevirtual 40, 3) := by decide +kernel
theorem dX4_appendMeasure_81 : decode cX4_appendMeasure 81 = .ok (.invokevirtual 43, 3) := by decide +kernel
theorem dX4_appendMeasure_84 : decode cX4_appendMeasure 84 = .ok (.aload_n 0, 1) := by decide +kernel
theorem dX4_appendMeasure_85 : decode cX4_appendMeasure 85 = .ok (.aload_n 0, 1) := by decide +kernel
theorem dX4_appendMeasure_86 : decode cX4_appendMeasure 86 = .ok (.getfield 13, 3) := by decide +kernel
theorem dX4_appendMeasure_89 : decode cX4_appendMeasure 89 = .ok (.iconst 1, 1) := by decide +kernel
theorem dX4_appendMeasure_90 : decode cX4_appendMeasure 90 = .ok (.isub, 1) := by decide +kernel
theorem dX4_appendMeasure_91 : decode cX4_appendMeasure 91 = .ok (.iconst 1, 1) := by decide +kernel
theorem dX4_appendMeasure_92 : decode cX4_appendMeasure 92 = .ok (.iload_n 2, 1) := by decide +kernel
theorem dX4_appendMeasure_93 : decode cX4_appendMeasure 93 = .ok (.ifCond .eq 7, 3) := by decide +kernel
theorem dX4_appendMeasure_96 : decode cX4_appendMeasure 96 = .ok (.iconst 4, 1) := by decide +kernel
theorem dX4_appendMeasure_97 : decode cX4_appendMeasure 97 = .ok (.goto 9, 3) := by decide +kernel
theorem dX4_appendMeasure_100 : decode cX4_appendMeasure 100 = .ok (.aload_n 0, 1) := by decide +kernel
theorem dX4_appendMeasure_101 : decode cX4_appendMeasure 101 = .ok (.iload_n 1, 1) := by decide +kernel
theorem dX4_appendMeasure_102 : decode cX4_appendMeasure 102 = .ok (.iconst 1, 1) := by decide +kernel
theorem dX4_appendMeasure_103 : decode cX4_appendMeasure 103 = .ok (.invokevirtual 40, 3) := by decide +kernel
theorem dX4_appendMeasure_106 : decode cX4_appendMeasure 106 = .ok (.invokevirtual 43, 3) := by decide +kernel
theorem dX4_appendMeasure_109 : decode cX4_appendMeasure 109 = .ok (.aload_n 0, 1) := by decide +kernel
theorem dX4_appendMeasure_110 : decode cX4_appendMeasure 110 = .ok (.aload_n 0, 1) := by decide +kernel
theorem dX4_appendMeasure_111 : decode cX4_appendMeasure 111 = .ok (.getfield 13, 3) := by decide +kernel
theorem dX4_appendMeasure_114 : decode cX4_appendMeasure 114 = .ok (.iconst 1, 1) := by decide +kernel
theorem dX4_appendMeasure_115 : decode cX4_appendMeasure 115 = .ok (.isub, 1) := by decide +kernel
theorem dX4_appendMeasure_116 : decode cX4_appendMeasure 116 = .ok (.iconst 2, 1) := by decide +kernel
theorem dX4_appendMeasure_117 : decode cX4_appendMeasure 117 = .ok (.iload_n 2, 1) := by decide +kernel
theorem dX4_appendMeasure_118 : decode cX4_appendMeasure 118 = .ok (.ifCond .eq 7, 3) := by decide +kernel
theorem dX4_appendMeasure_121 : decode cX4_appendMeasure 121 = .ok (.iconst 4, 1) := by decide +kernel
theorem dX4_appendMeasure_122 : decode cX4_appendMeasure 122 = .ok (.goto 9, 3) := by decide +kernel
theorem dX4_appendMeasure_125 : decode cX4_appendMeasure 125 = .ok (.aload_n 0, 1) := by decide +kernel
theorem dX4_appendMeasure_126 : decode cX4_appendMeasure 126 = .ok (.iload_n 1, 1) := by decide +kernel
theorem dX4_appendMeasure_127 : decode cX4_appendMeasure 127 = .ok (.iconst 2, 1) := by decide +kernel
theorem dX4_appendMeasure_128 : decode cX4_appendMeasure 128 = .ok (.invokevirtual 40, 3) := by decide +kernel
theorem dX4_appendMeasure_131 : decode cX4_appendMeasure 131 = .ok (.invokevirtual 43, 3) := by decide +kernel
theorem dX4_appendMeasure_134 : decode cX4_appendMeasure 134 = .ok (.aload_n 0, 1) := by decide +kernel
theorem dX4_appendMeasure_135 : decode cX4_appendMeasure 135 = .ok (.aload_n 0, 1) := by decide +kernel
theorem dX4_appendMeasure_136 : decode cX4_appendMeasure 136 = .ok (.getfield 13, 3) := by decide +kernel
theorem dX4_appendMeasure_139 : decode cX4_appendMeasure 139 = .ok (.iconst 1, 1) := by decide +kernel
theorem dX4_appendMeasure_140 : decode cX4_appendMeasure 140 = .ok (.isub, 1) := by decide +kernel
theorem dX4_appendMeasure_141 : decode cX4_appendMeasure 141 = .ok (.iconst 3, 1) := by decide +kernel
theorem dX4_appendMeasure_142 : decode cX4_appendMeasure 142 = .ok (.iload_n 2, 1) := by decide +kernel
theorem dX4_appendMeasure_143 : decode cX4_appendMeasure 143 = .ok (.ifCond .eq 8, 3) := by decide +kernel
theorem dX4_appendMeasure_146 : decode cX4_appendMeasure 146 = .ok (.bipush 120, 2) := by decide +kernel
theorem dX4_appendMeasure_148 : decode cX4_appendMeasure 148 = .ok (.goto 9, 3) := by decide +kernel
theorem dX4_appendMeasure_151 : decode cX4_appendMeasure 151 = .ok (.aload_n 0, 1) := by decide +kernel
theorem dX4_appendMeasure_152 : decode cX4_appendMeasure 152 = .ok (.iload_n 1, 1) := by decide +kernel
theorem dX4_appendMeasure_153 : decode cX4_appendMeasure 153 = .ok (.iconst 3, 1) := by decide +kernel
theorem dX4_appendMeasure_154 : decode cX4_appendMeasure 154 = .ok (.invokevirtual 40, 3) := by decide +kernel
theorem dX4_appendMeasure_157 : decode cX4_appendMeasure 157 = .ok (.invokevirtual 43, 3) := by decide +kernel
theorem dX4_appendMeasure_160 : decode cX4_appendMeasure 160 = .ok (.return_, 1) := by decide +kernel
theorem dX4_dropMeasure_0 : decode cX4_dropMeasure 0 = .ok (.aload_n 0, 1) := by decide +kernel
theorem dX4_dropMeasure_1 : decode cX4_dropMeasure 1 = .ok (.iload_n 1, 1) := by decide +kernel
theorem dX4_dropMeasure_2 : decode cX4_dropMeasure 2 = .ok (.invokevirtual 24, 3) := by decide +kernel
theorem dX4_dropMeasure_5 : decode cX4_dropMeasure 5 = .ok (.ifCond .eq 47, 3) := by decide +kernel
theorem dX4_dropMeasure_8 : decode cX4_dropMeasure 8 = .ok (.aload_n 0, 1) := by decide +kernel
theorem dX4_dropMeasure_9 : decode cX4_dropMeasure 9 = .ok (.getfield 13, 3) := by decide +kernel
theorem dX4_dropMeasure_12 : decode cX4_dropMeasure 12 = .ok (.iload_n 1, 1) := by decide +kernel
theorem dX4_dropMeasure_13 : decode cX4_dropMeasure 13 = .ok (.isub, 1) := by decide +kernel
theorem dX4_dropMeasure_14 : decode cX4_dropMeasure 14 = .ok (.iconst 1, 1) := by decide +kernel
theorem dX4_dropMeasure_15 : decode cX4_dropMeasure 15 = .ok (.isub, 1) := by decide +kernel
theorem dX4_dropMeasure_16 : decode cX4_dropMeasure 16 = .ok (.istore_n 2, 1) := by decide +kernel
theorem dX4_dropMeasure_17 : decode cX4_dropMeasure 17 = .ok (.aload_n 0, 1) := by decide +kernel
theorem dX4_dropMeasure_18 : decode cX4_dropMeasure 18 = .ok (.getfield 9, 3) := by decide +kernel
theorem dX4_dropMeasure_21 : decode cX4_dropMeasure 21 = .ok (.iload_n 1, 1) := by decide +kernel
theorem dX4_dropMeasure_22 : decode cX4_dropMeasure 22 = .ok (.iconst 1, 1) := by decide +kernel
theorem dX4_dropMeasure_23 : decode cX4_dropMeasure 23 = .ok (.iadd, 1) := by decide +kernel
theorem dX4_dropMeasure_24 : decode cX4_dropMeasure 24 = .ok (.bipush 57, 2) := by decide +kernel
theorem dX4_dropMeasure_26 : decode cX4_dropMeasure 26 = .ok (.imul, 1) := by decide +kernel
theorem dX4_dropMeasure_27 : decode cX4_dropMeasure 27 = .ok (.aload_n 0, 1) := by decide +kernel
theorem dX4_dropMeasure_28 : decode cX4_dropMeasure 28 = .ok (.getfield 9, 3) := by decide +kernel
theorem dX4_dropMeasure_31 : decode cX4_dropMeasure 31 = .ok (.iload_n 1, 1) := by decide +kernel
theorem dX4_dropMeasure_32 : decode cX4_dropMeasure 32 = .ok (.bipush 57, 2) := by decide +kernel
theorem dX4_dropMeasure_34 : decode cX4_dropMeasure 34 = .ok (.imul, 1) := by decide +kernel
theorem dX4_dropMeasure_35 : decode cX4_dropMeasure 35 = .ok (.iload_n 2, 1) := by decide +kernel
theorem dX4_dropMeasure_36 : decode cX4_dropMeasure 36 = .ok (.bipush 57, 2) := by decide +kernel
theorem dX4_dropMeasure_38 : decode cX4_dropMeasure 38 = .ok (.imul, 1) := by decide +kernel
theorem dX4_dropMeasure_39 : decode cX4_dropMeasure 39 = .ok (.invokestatic 47, 3) := by decide +kernel
theorem dX4_dropMeasure_42 : decode cX4_dropMeasure 42 = .ok (.aload_n 0, 1) := by decide +kernel
theorem dX4_dropMeasure_43 : decode cX4_dropMeasure 43 = .ok (.dup, 1) := by decide +kernel
theorem dX4_dropMeasure_44 : decode cX4_dropMeasure 44 = .ok (.getfield 13, 3) := by decide +kernel
theorem dX4_dropMeasure_47 : decode cX4_dropMeasure 47 = .ok (.iconst 1, 1) := by decide +kernel
theorem dX4_dropMeasure_48 : decode cX4_dropMeasure 48 = .ok (.isub, 1) := by decide +kernel
theorem dX4_dropMeasure_49 : decode cX4_dropMeasure 49 = .ok (.putfield 13, 3) := by decide +kernel
theorem dX4_dropMeasure_52 : decode cX4_dropMeasure 52 = .ok (.return_, 1) := by decide +kernel
theorem dX4_appendEvent_0 : decode cX4_appendEvent 0 = .ok (.aload_n 0, 1) := by decide +kernel
theorem dX4_appendEvent_1 : decode cX4_appendEvent 1 = .ok (.iload_n 1, 1) := by decide +kernel
theorem dX4_appendEvent_2 : decode cX4_appendEvent 2 = .ok (.iload_n 2, 1) := by decide +kernel
theorem dX4_appendEvent_3 : decode cX4_appendEvent 3 = .ok (.invokevirtual 17, 3) := by decide +kernel
theorem dX4_appendEvent_6 : decode cX4_appendEvent 6 = .ok (.istore 4, 2) := by decide +kernel
theorem dX4_appendEvent_8 : decode cX4_appendEvent 8 = .ok (.iload 4, 2) := by decide +kernel
theorem dX4_appendEvent_10 : decode cX4_appendEvent 10 = .ok (.ifCond .lt 42, 3) := by decide +kernel
theorem dX4_appendEvent_13 : decode cX4_appendEvent 13 = .ok (.aload_n 0, 1) := by decide +kernel
theorem dX4_appendEvent_14 : decode cX4_appendEvent 14 = .ok (.getfield 9, 3) := by decide +kernel
theorem dX4_appendEvent_17 : decode cX4_appendEvent 17 = .ok (.iload 4, 2) := by decide +kernel
theorem dX4_appendEvent_19 : decode cX4_appendEvent 19 = .ok (.iaload, 1) := by decide +kernel
theorem dX4_appendEvent_20 : decode cX4_appendEvent 20 = .ok (.bipush 24, 2) := by decide +kernel
theorem dX4_appendEvent_22 : decode cX4_appendEvent 22 = .ok (.if_icmp .ge 30, 3) := by decide +kernel
theorem dX4_appendEvent_25 : decode cX4_appendEvent 25 = .ok (.aload_n 0, 1) := by decide +kernel
theorem dX4_appendEvent_26 : decode cX4_appendEvent 26 = .ok (.getfield 9, 3) := by decide +kernel
theorem dX4_appendEvent_29 : decode cX4_appendEvent 29 = .ok (.iload 4, 2) := by decide +kernel
theorem dX4_appendEvent_31 : decode cX4_appendEvent 31 = .ok (.dup2, 1) := by decide +kernel
theorem dX4_appendEvent_32 : decode cX4_appendEvent 32 = .ok (.iaload, 1) := by decide +kernel
theorem dX4_appendEvent_33 : decode cX4_appendEvent 33 = .ok (.iconst 1, 1) := by decide +kernel
theorem dX4_appendEvent_34 : decode cX4_appendEvent 34 = .ok (.iadd, 1) := by decide +kernel
theorem dX4_appendEvent_35 : decode cX4_appendEvent 35 = .ok (.iastore, 1) := by decide +kernel
theorem dX4_appendEvent_36 : decode cX4_appendEvent 36 = .ok (.aload_n 0, 1) := by decide +kernel
theorem dX4_appendEvent_37 : decode cX4_appendEvent 37 = .ok (.getfield 9, 3) := by decide +kernel
theorem dX4_appendEvent_40 : decode cX4_appendEvent 40 = .ok (.iload 4, 2) := by decide +kernel
theorem dX4_appendEvent_42 : decode cX4_appendEvent 42 = .ok (.aload_n 0, 1) := by decide +kernel
theorem dX4_appendEvent_43 : decode cX4_appendEvent 43 = .ok (.getfield 9, 3) := by decide +kernel
theorem dX4_appendEvent_46 : decode cX4_appendEvent 46 = .ok (.iload 4, 2) := by decide +kernel
theorem dX4_appendEvent_48 : decode cX4_appendEvent 48 = .ok (.iaload, 1) := by decide +kernel
theorem dX4_appendEvent_49 : decode cX4_appendEvent 49 = .ok (.iadd, 1) := by decide +kernel
theorem dX4_appendEvent_50 : decode cX4_appendEvent 50 = .ok (.iload_n 3, 1) := by decide +kernel
theorem dX4_appendEvent_51 : decode cX4_appendEvent 51 = .ok (.iastore, 1) := by decide +kernel
theorem dX4_appendEvent_52 : decode cX4_appendEvent 52 = .ok (.return_, 1) := by decide +kernel
theorem dX4_dropEvent_0 : decode cX4_dropEvent 0 = .ok (.aload_n 0, 1) := by decide +kernel
theorem dX4_dropEvent_1 : decode cX4_dropEvent 1 = .ok (.iload_n 1, 1) := by decide +kernel
theorem dX4_dropEvent_2 : decode cX4_dropEvent 2 = .ok (.iload_n 2, 1) := by decide +kernel
theorem dX4_dropEvent_3 : decode cX4_dropEvent 3 = .ok (.invokevirtual 17, 3) := by decide +kernel
theorem dX4_dropEvent_6 : decode cX4_dropEvent 6 = .ok (.istore 4, 2) := by decide +kernel
theorem dX4_dropEvent_8 : decode cX4_dropEvent 8 = .ok (.iload 4, 2) := by decide +kernel
theorem dX4_dropEvent_10 : decode cX4_dropEvent 10 = .ok (.ifCond .lt 65, 3) := by decide +kernel
theorem dX4_dropEvent_13 : decode cX4_dropEvent 13 = .ok (.iload_n 3, 1) := by decide +kernel
theorem dX4_dropEvent_14 : decode cX4_dropEvent 14 = .ok (.ifCond .lt 61, 3) := by decide +kernel
theorem dX4_dropEvent_17 : decode cX4_dropEvent 17 = .ok (.iload_n 3, 1) := by decide +kernel
theorem dX4_dropEvent_18 : decode cX4_dropEvent 18 = .ok (.aload_n 0, 1) := by decide +kernel
theorem dX4_dropEvent_19 : decode cX4_dropEvent 19 = .ok (.getfield 9, 3) := by decide +kernel
theorem dX4_dropEvent_22 : decode cX4_dropEvent 22 = .ok (.iload 4, 2) := by decide +kernel
theorem dX4_dropEvent_24 : decode cX4_dropEvent 24 = .ok (.iaload, 1) := by decide +kernel
theorem dX4_dropEvent_25 : decode cX4_dropEvent 25 = .ok (.if_icmp .ge 50, 3) := by decide +kernel
theorem dX4_dropEvent_28 : decode cX4_dropEvent 28 = .ok (.iload 4, 2) := by decide +kernel
theorem dX4_dropEvent_30 : decode cX4_dropEvent 30 = .ok (.iconst 1, 1) := by decide +kernel
theorem dX4_dropEvent_31 : decode cX4_dropEvent 31 = .ok (.iadd, 1) := by decide +kernel
theorem dX4_dropEvent_32 : decode cX4_dropEvent 32 = .ok (.iload_n 3, 1) := by decide +kernel
theorem dX4_dropEvent_33 : decode cX4_dropEvent 33 = .ok (.iadd, 1) := by decide +kernel
theorem dX4_dropEvent_34 : decode cX4_dropEvent 34 = .ok (.istore 5, 2) := by decide +kernel
theorem dX4_dropEvent_36 : decode cX4_dropEvent 36 = .ok (.aload_n 0, 1) := by decide +kernel
theorem dX4_dropEvent_37 : decode cX4_dropEvent 37 = .ok (.getfield 9, 3) := by decide +kernel
theorem dX4_dropEvent_40 : decode cX4_dropEvent 40 = .ok (.iload 5, 2) := by decide +kernel
theorem dX4_dropEvent_42 : decode cX4_dropEvent 42 = .ok (.iconst 1, 1) := by decide +kernel
theorem dX4_dropEvent_43 : decode cX4_dropEvent 43 = .ok (.iadd, 1) := by decide +kernel
theorem dX4_dropEvent_44 : decode cX4_dropEvent 44 = .ok (.aload_n 0, 1) := by decide +kernel
theorem dX4_dropEvent_45 : decode cX4_dropEvent 45 = .ok (.getfield 9, 3) := by decide +kernel
theorem dX4_dropEvent_48 : decode cX4_dropEvent 48 = .ok (.iload 5, 2) := by decide +kernel
theorem dX4_dropEvent_50 : decode cX4_dropEvent 50 = .ok (.aload_n 0, 1) := by decide +kernel
theorem dX4_dropEvent_51 : decode cX4_dropEvent 51 = .ok (.getfield 9, 3) := by decide +kernel
theorem dX4_dropEvent_54 : decode cX4_dropEvent 54 = .ok (.iload 4, 2) := by decide +kernel
theorem dX4_dropEvent_56 : decode cX4_dropEvent 56 = .ok (.iaload, 1) := by decide +kernel
theorem dX4_dropEvent_57 : decode cX4_dropEvent 57 = .ok (.iload_n 3, 1) := by decide +kernel
theorem dX4_dropEvent_58 : decode cX4_dropEvent 58 = .ok (.isub, 1) := by decide +kernel
theorem dX4_dropEvent_59 : decode cX4_dropEvent 59 = .ok (.iconst 1, 1) := by decide +kernel
theorem dX4_dropEvent_60 : decode cX4_dropEvent 60 = .ok (.isub, 1) := by decide +kernel
theorem dX4_dropEvent_61 : decode cX4_dropEvent 61 = .ok (.invokestatic 47, 3) := by decide +kernel
theorem dX4_dropEvent_64 : decode cX4_dropEvent 64 = .ok (.aload_n 0, 1) := by decide +kernel
theorem dX4_dropEvent_65 : decode cX4_dropEvent 65 = .ok (.getfield 9, 3) := by decide +kernel
theorem dX4_dropEvent_68 : decode cX4_dropEvent 68 = .ok (.iload 4, 2) := by decide +kernel
theorem dX4_dropEvent_70 : decode cX4_dropEvent 70 = .ok (.dup2, 1) := by decide +kernel
theorem dX4_dropEvent_71 : decode cX4_dropEvent 71 = .ok (.iaload, 1) := by decide +kernel
theorem dX4_dropEvent_72 : decode cX4_dropEvent 72 = .ok (.iconst 1, 1) := by decide +kernel
theorem dX4_dropEvent_73 : decode cX4_dropEvent 73 = .ok (.isub, 1) := by decide +kernel
theorem dX4_dropEvent_74 : decode cX4_dropEvent 74 = .ok (.iastore, 1) := by decide +kernel
theorem dX4_dropEvent_75 : decode cX4_dropEvent 75 = .ok (.return_, 1) := by decide +kernel
theorem dX4_copyFrom_0 : decode cX4_copyFrom 0 = .ok (.aload_n 1, 1) := by decide +kernel
theorem dX4_copyFrom_1 : decode cX4_copyFrom 1 = .ok (.getfield 9, 3) := by decide +kernel
theorem dX4_copyFrom_4 : decode cX4_copyFrom 4 = .ok (.iconst 0, 1) := by decide +kernel
theorem dX4_copyFrom_5 : decode cX4_copyFrom 5 = .ok (.aload_n 0, 1) := by decide +kernel
theorem dX4_copyFrom_6 : decode cX4_copyFrom 6 = .ok (.getfield 9, 3) := by decide +kernel
theorem dX4_copyFrom_9 : decode cX4_copyFrom 9 = .ok (.iconst 0, 1) := by decide +kernel
theorem dX4_copyFrom_10 : decode cX4_copyFrom 10 = .ok (.aload_n 1, 1) := by decide +kernel
theorem dX4_copyFrom_11 : decode cX4_copyFrom 11 = .ok (.getfield 13, 3) := by decide +kernel
theorem dX4_copyFrom_14 : decode cX4_copyFrom 14 = .ok (.bipush 57, 2) := by decide +kernel
theorem dX4_copyFrom_16 : decode cX4_copyFrom 16 = .ok (.imul, 1) := by decide +kernel
theorem dX4_copyFrom_17 : decode cX4_copyFrom 17 = .ok (.invokestatic 47, 3) := by decide +kernel
theorem dX4_copyFrom_20 : decode cX4_copyFrom 20 = .ok (.aload_n 0, 1) := by decide +kernel
theorem dX4_copyFrom_21 : decode cX4_copyFrom 21 = .ok (.aload_n 1, 1) := by decide +kernel
theorem dX4_copyFrom_22 : decode cX4_copyFrom 22 = .ok (.getfield 13, 3) := by decide +kernel
theorem dX4_copyFrom_25 : decode cX4_copyFrom 25 = .ok (.putfield 13, 3) := by decide +kernel
theorem dX4_copyFrom_28 : decode cX4_copyFrom 28 = .ok (.return_, 1) := by decide +kernel
theorem dX4_ticks_0 : decode cX4_ticks 0 = .ok (.aload_n 0, 1) := by decide +kernel
theorem dX4_ticks_1 : decode cX4_ticks 1 = .ok (.iload_n 1, 1) := by decide +kernel
theorem dX4_ticks_2 : decode cX4_ticks 2 = .ok (.iconst 2, 1) := by decide +kernel
theorem dX4_ticks_3 : decode cX4_ticks 3 = .ok (.invokevirtual 40, 3) := by decide +kernel
theorem dX4_ticks_6 : decode cX4_ticks 6 = .ok (.istore_n 2, 1) := by decide +kernel
theorem dX4_ticks_7 : decode cX4_ticks 7 = .ok (.iload_n 2, 1) := by decide +kernel
theorem dX4_ticks_8 : decode cX4_ticks 8 = .ok (.ifCond .ne 7, 3) := by decide +kernel
theorem dX4_ticks_11 : decode cX4_ticks 11 = .ok (.iconst 0, 1) := by decide +kernel
theorem dX4_ticks_12 : decode cX4_ticks 12 = .ok (.goto 14, 3) := by decide +kernel
theorem dX4_ticks_15 : decode cX4_ticks 15 = .ok (.bipush 64, 2) := by decide +kernel
theorem dX4_ticks_17 : decode cX4_ticks 17 = .ok (.aload_n 0, 1) := by decide +kernel
theorem dX4_ticks_18 : decode cX4_ticks 18 = .ok (.iload_n 1, 1) := by decide +kernel
theorem dX4_ticks_19 : decode cX4_ticks 19 = .ok (.iconst 1, 1) := by decide +kernel
theorem dX4_ticks_20 : decode cX4_ticks 20 = .ok (.invokevirtual 40, 3) := by decide +kernel
theorem dX4_ticks_23 : decode cX4_ticks 23 = .ok (.imul, 1) := by decide +kernel
theorem dX4_ticks_24 : decode cX4_ticks 24 = .ok (.iload_n 2, 1) := by decide +kernel
theorem dX4_ticks_25 : decode cX4_ticks 25 = .ok (.idiv, 1) := by decide +kernel
theorem dX4_ticks_26 : decode cX4_ticks 26 = .ok (.ireturn, 1) := by decide +kernel
theorem dX4_voiceTicks_0 : decode cX4_voiceTicks 0 = .ok (.aload_n 0, 1) := by decide +kernel
theorem dX4_voiceTicks_1 : decode cX4_voiceTicks 1 = .ok (.iload_n 1, 1) := by decide +kernel
theorem dX4_voiceTicks_2 : decode cX4_voiceTicks 2 = .ok (.iload_n 2, 1) := by decide +kernel
theorem dX4_voiceTicks_3 : decode cX4_voiceTicks 3 = .ok (.aload_n 0, 1) := by decide +kernel
theorem dX4_voiceTicks_4 : decode cX4_voiceTicks 4 = .ok (.iload_n 1, 1) := by decide +kernel
theorem dX4_voiceTicks_5 : decode cX4_voiceTicks 5 = .ok (.iload_n 2, 1) := by decide +kernel
theorem dX4_voiceTicks_6 : decode cX4_voiceTicks 6 = .ok (.invokevirtual 21, 3) := by decide +kernel
theorem dX4_voiceTicks_9 : decode cX4_voiceTicks 9 = .ok (.invokevirtual 53, 3) := by decide +kernel
theorem dX4_voiceTicks_12 : decode cX4_voiceTicks 12 = .ok (.ireturn, 1) := by decide +kernel
theorem dX4_begin_0 : decode cX4_begin 0 = .ok (.iconst 0, 1) := by decide +kernel
theorem dX4_begin_1 : decode cX4_begin 1 = .ok (.istore 4, 2) := by decide +kernel
theorem dX4_begin_3 : decode cX4_begin 3 = .ok (.iconst 0, 1) := by decide +kernel
theorem dX4_begin_4 : decode cX4_begin 4 = .ok (.istore 5, 2) := by decide +kernel
theorem dX4_begin_6 : decode cX4_begin 6 = .ok (.iload 5, 2) := by decide +kernel
theorem dX4_begin_8 : decode cX4_begin 8 = .ok (.iload_n 3, 1) := by decide +kernel
theorem dX4_begin_9 : decode cX4_begin 9 = .ok (.if_icmp .ge 25, 3) := by decide +kernel
theorem dX4_begin_12 : decode cX4_begin 12 = .ok (.iload 4, 2) := by decide +kernel
theorem dX4_begin_14 : decode cX4_begin 14 = .ok (.aload_n 0, 1) := by decide +kernel
theorem dX4_begin_15 : decode cX4_begin 15 = .ok (.iload_n 1, 1) := by decide +kernel
theorem dX4_begin_16 : decode cX4_begin 16 = .ok (.iload_n 2, 1) := by decide +kernel
theorem dX4_begin_17 : decode cX4_begin 17 = .ok (.iload 5, 2) := by decide +kernel
theorem dX4_begin_19 : decode cX4_begin 19 = .ok (.invokevirtual 57, 3) := by decide +kernel
theorem dX4_begin_22 : decode cX4_begin 22 = .ok (.invokestatic 60, 3) := by decide +kernel
theorem dX4_begin_25 : decode cX4_begin 25 = .ok (.iadd, 1) := by decide +kernel
theorem dX4_begin_26 : decode cX4_begin 26 = .ok (.istore 4, 2) := by decide +kernel
theorem dX4_begin_28 : decode cX4_begin 28 = .ok (.iinc 5 1, 3) := by decide +kernel
theorem dX4_begin_31 : decode cX4_begin 31 = .ok (.goto (-25), 3) := by decide +kernel
theorem dX4_begin_34 : decode cX4_begin 34 = .ok (.iload 4, 2) := by decide +kernel
theorem dX4_begin_36 : decode cX4_begin 36 = .ok (.ireturn, 1) := by decide +kernel
theorem dX4_unevenVoices_0 : decode cX4_unevenVoices 0 = .ok (.iconst 0, 1) := by decide +kernel
theorem dX4_unevenVoices_1 : decode cX4_unevenVoices 1 = .ok (.istore_n 1, 1) := by decide +kernel
theorem dX4_unevenVoices_2 : decode cX4_unevenVoices 2 = .ok (.iconst 0, 1) := by decide +kernel
theorem dX4_unevenVoices_3 : decode cX4_unevenVoices 3 = .ok (.istore_n 2, 1) := by decide +kernel
theorem dX4_unevenVoices_4 : decode cX4_unevenVoices 4 = .ok (.iload_n 2, 1) := by decide +kernel
theorem dX4_unevenVoices_5 : decode cX4_unevenVoices 5 = .ok (.aload_n 0, 1) := by decide +kernel
theorem dX4_unevenVoices_6 : decode cX4_unevenVoices 6 = .ok (.getfield 13, 3) := by decide +kernel
theorem dX4_unevenVoices_9 : decode cX4_unevenVoices 9 = .ok (.if_icmp .ge 65, 3) := by decide +kernel
theorem dX4_unevenVoices_12 : decode cX4_unevenVoices 12 = .ok (.iconst 0, 1) := by decide +kernel
theorem dX4_unevenVoices_13 : decode cX4_unevenVoices 13 = .ok (.istore_n 3, 1) := by decide +kernel
theorem dX4_unevenVoices_14 : decode cX4_unevenVoices 14 = .ok (.iload_n 3, 1) := by decide +kernel
theorem dX4_unevenVoices_15 : decode cX4_unevenVoices 15 = .ok (.iconst 2, 1) := by decide +kernel
theorem dX4_unevenVoices_16 : decode cX4_unevenVoices 16 = .ok (.if_icmp .ge 52, 3) := by decide +kernel
theorem dX4_unevenVoices_19 : decode cX4_unevenVoices 19 = .ok (.aload_n 0, 1) := by decide +kernel
theorem dX4_unevenVoices_20 : decode cX4_unevenVoices 20 = .ok (.iload_n 2, 1) := by decide +kernel
theorem dX4_unevenVoices_21 : decode cX4_unevenVoices 21 = .ok (.iload_n 3, 1) := by decide +kernel
theorem dX4_unevenVoices_22 : decode cX4_unevenVoices 22 = .ok (.invokevirtual 21, 3) := by decide +kernel
theorem dX4_unevenVoices_25 : decode cX4_unevenVoices 25 = .ok (.ifCond .le 21, 3) := by decide +kernel
theorem dX4_unevenVoices_28 : decode cX4_unevenVoices 28 = .ok (.aload_n 0, 1) := by decide +kernel
theorem dX4_unevenVoices_29 : decode cX4_unevenVoices 29 = .ok (.iload_n 2, 1) := by decide +kernel
theorem dX4_unevenVoices_30 : decode cX4_unevenVoices 30 = .ok (.iload_n 3, 1) := by decide +kernel
theorem dX4_unevenVoices_31 : decode cX4_unevenVoices 31 = .ok (.invokevirtual 64, 3) := by decide +kernel
theorem dX4_unevenVoices_34 : decode cX4_unevenVoices 34 = .ok (.aload_n 0, 1) := by decide +kernel
theorem dX4_unevenVoices_35 : decode cX4_unevenVoices 35 = .ok (.iload_n 2, 1) := by decide +kernel
theorem dX4_unevenVoices_36 : decode cX4_unevenVoices 36 = .ok (.invokevirtual 67, 3) := by decide +kernel
theorem dX4_unevenVoices_39 : decode cX4_unevenVoices 39 = .ok (.if_icmp .eq 7, 3) := by decide +kernel
theorem dX4_unevenVoices_42 : decode cX4_unevenVoices 42 = .ok (.iconst 1, 1) := by decide +kernel
theorem dX4_unevenVoices_43 : decode cX4_unevenVoices 43 = .ok (.goto 4, 3) := by decide +kernel
theorem dX4_unevenVoices_46 : decode cX4_unevenVoices 46 = .ok (.iconst 0, 1) := by decide +kernel
theorem dX4_unevenVoices_47 : decode cX4_unevenVoices 47 = .ok (.istore 4, 2) := by decide +kernel
theorem dX4_unevenVoices_49 : decode cX4_unevenVoices 49 = .ok (.iload_n 1, 1) := by decide +kernel
theorem dX4_unevenVoices_50 : decode cX4_unevenVoices 50 = .ok (.iload 4, 2) := by decide +kernel
theorem dX4_unevenVoices_52 : decode cX4_unevenVoices 52 = .ok (.ifCond .eq 7, 3) := by decide +kernel
theorem dX4_unevenVoices_55 : decode cX4_unevenVoices 55 = .ok (.iconst 1, 1) := by decide +kernel
theorem dX4_unevenVoices_56 : decode cX4_unevenVoices 56 = .ok (.goto 4, 3) := by decide +kernel
theorem dX4_unevenVoices_59 : decode cX4_unevenVoices 59 = .ok (.iconst 0, 1) := by decide +kernel
theorem dX4_unevenVoices_60 : decode cX4_unevenVoices 60 = .ok (.iadd, 1) := by decide +kernel
theorem dX4_unevenVoices_61 : decode cX4_unevenVoices 61 = .ok (.istore_n 1, 1) := by decide +kernel
theorem dX4_unevenVoices_62 : decode cX4_unevenVoices 62 = .ok (.iinc 3 1, 3) := by decide +kernel
theorem dX4_unevenVoices_65 : decode cX4_unevenVoices 65 = .ok (.goto (-51), 3) := by decide +kernel
theorem dX4_unevenVoices_68 : decode cX4_unevenVoices 68 = .ok (.iinc 2 1, 3) := by decide +kernel
theorem dX4_unevenVoices_71 : decode cX4_unevenVoices 71 = .ok (.goto (-67), 3) := by decide +kernel
theorem dX4_unevenVoices_74 : decode cX4_unevenVoices 74 = .ok (.iload_n 1, 1) := by decide +kernel
theorem dX4_unevenVoices_75 : decode cX4_unevenVoices 75 = .ok (.ireturn, 1) := by decide +kernel
theorem dX4_codeBefore_0 : decode cX4_codeBefore 0 = .ok (.iload_n 3, 1) := by decide +kernel
theorem dX4_codeBefore_1 : decode cX4_codeBefore 1 = .ok (.ifCond .le 15, 3) := by decide +kernel
theorem dX4_codeBefore_4 : decode cX4_codeBefore 4 = .ok (.aload_n 0, 1) := by decide +kernel
theorem dX4_codeBefore_5 : decode cX4_codeBefore 5 = .ok (.iload_n 1, 1) := by decide +kernel
theorem dX4_codeBefore_6 : decode cX4_codeBefore 6 = .ok (.iload_n 2, 1) := by decide +kernel
theorem dX4_codeBefore_7 : decode cX4_codeBefore 7 = .ok (.iload_n 3, 1) := by decide +kernel
theorem dX4_codeBefore_8 : decode cX4_codeBefore 8 = .ok (.iconst 1, 1) := by decide +kernel
theorem dX4_codeBefore_9 : decode cX4_codeBefore 9 = .ok (.isub, 1) := by decide +kernel
theorem dX4_codeBefore_10 : decode cX4_codeBefore 10 = .ok (.invokevirtual 57, 3) := by decide +kernel
theorem dX4_codeBefore_13 : decode cX4_codeBefore 13 = .ok (.goto 21, 3) := by decide +kernel
theorem dX4_codeBefore_16 : decode cX4_codeBefore 16 = .ok (.aload_n 0, 1) := by decide +kernel
theorem dX4_codeBefore_17 : decode cX4_codeBefore 17 = .ok (.iload_n 1, 1) := by decide +kernel
theorem dX4_codeBefore_18 : decode cX4_codeBefore 18 = .ok (.iconst 1, 1) := by decide +kernel
theorem dX4_codeBefore_19 : decode cX4_codeBefore 19 = .ok (.isub, 1) := by decide +kernel
theorem dX4_codeBefore_20 : decode cX4_codeBefore 20 = .ok (.iload_n 2, 1) := by decide +kernel
theorem dX4_codeBefore_21 : decode cX4_codeBefore 21 = .ok (.aload_n 0, 1) := by decide +kernel
theorem dX4_codeBefore_22 : decode cX4_codeBefore 22 = .ok (.iload_n 1, 1) := by decide +kernel
theorem dX4_codeBefore_23 : decode cX4_codeBefore 23 = .ok (.iconst 1, 1) := by decide +kernel
theorem dX4_codeBefore_24 : decode cX4_codeBefore 24 = .ok (.isub, 1) := by decide +kernel
theorem dX4_codeBefore_25 : decode cX4_codeBefore 25 = .ok (.iload_n 2, 1) := by decide +kernel
theorem dX4_codeBefore_26 : decode cX4_codeBefore 26 = .ok (.invokevirtual 21, 3) := by decide +kernel
theorem dX4_codeBefore_29 : decode cX4_codeBefore 29 = .ok (.iconst 1, 1) := by decide +kernel
theorem dX4_codeBefore_30 : decode cX4_codeBefore 30 = .ok (.isub, 1) := by decide +kernel
theorem dX4_codeBefore_31 : decode cX4_codeBefore 31 = .ok (.invokevirtual 57, 3) := by decide +kernel
theorem dX4_codeBefore_34 : decode cX4_codeBefore 34 = .ok (.ireturn, 1) := by decide +kernel
theorem dX4_codeAfter_0 : decode cX4_codeAfter 0 = .ok (.iload_n 3, 1) := by decide +kernel
theorem dX4_codeAfter_1 : decode cX4_codeAfter 1 = .ok (.iconst 1, 1) := by decide +kernel
theorem dX4_codeAfter_2 : decode cX4_codeAfter 2 = .ok (.iadd, 1) := by decide +kernel
theorem dX4_codeAfter_3 : decode cX4_codeAfter 3 = .ok (.aload_n 0, 1) := by decide +kernel
theorem dX4_codeAfter_4 : decode cX4_codeAfter 4 = .ok (.iload_n 1, 1) := by decide +kernel
theorem dX4_codeAfter_5 : decode cX4_codeAfter 5 = .ok (.iload_n 2, 1) := by decide +kernel
theorem dX4_codeAfter_6 : decode cX4_codeAfter 6 = .ok (.invokevirtual 21, 3) := by decide +kernel
theorem dX4_codeAfter_9 : decode cX4_codeAfter 9 = .ok (.if_icmp .ge 15, 3) := by decide +kernel
theorem dX4_codeAfter_12 : decode cX4_codeAfter 12 = .ok (.aload_n 0, 1) := by decide +kernel
theorem dX4_codeAfter_13 : decode cX4_codeAfter 13 = .ok (.iload_n 1, 1) := by decide +kernel
theorem dX4_codeAfter_14 : decode cX4_codeAfter 14 = .ok (.iload_n 2, 1) := by decide +kernel
theorem dX4_codeAfter_15 : decode cX4_codeAfter 15 = .ok (.iload_n 3, 1) := by decide +kernel
theorem dX4_codeAfter_16 : decode cX4_codeAfter 16 = .ok (.iconst 1, 1) := by decide +kernel
theorem dX4_codeAfter_17 : decode cX4_codeAfter 17 = .ok (.iadd, 1) := by decide +kernel
theorem dX4_codeAfter_18 : decode cX4_codeAfter 18 = .ok (.invokevirtual 57, 3) := by decide +kernel
theorem dX4_codeAfter_21 : decode cX4_codeAfter 21 = .ok (.goto 12, 3) := by decide +kernel
theorem dX4_codeAfter_24 : decode cX4_codeAfter 24 = .ok (.aload_n 0, 1) := by decide +kernel
theorem dX4_codeAfter_25 : decode cX4_codeAfter 25 = .ok (.iload_n 1, 1) := by decide +kernel
theorem dX4_codeAfter_26 : decode cX4_codeAfter 26 = .ok (.iconst 1, 1) := by decide +kernel
theorem dX4_codeAfter_27 : decode cX4_codeAfter 27 = .ok (.iadd, 1) := by decide +kernel
theorem dX4_codeAfter_28 : decode cX4_codeAfter 28 = .ok (.iload_n 2, 1) := by decide +kernel
theorem dX4_codeAfter_29 : decode cX4_codeAfter 29 = .ok (.iconst 0, 1) := by decide +kernel
theorem dX4_codeAfter_30 : decode cX4_codeAfter 30 = .ok (.invokevirtual 57, 3) := by decide +kernel
theorem dX4_codeAfter_33 : decode cX4_codeAfter 33 = .ok (.ireturn, 1) := by decide +kernel
theorem dX4_isHeldTie_0 : decode cX4_isHeldTie 0 = .ok (.aload_n 0, 1) := by decide +kernel
theorem dX4_isHeldTie_1 : decode cX4_isHeldTie 1 = .ok (.iload_n 1, 1) := by decide +kernel
theorem dX4_isHeldTie_2 : decode cX4_isHeldTie 2 = .ok (.iload_n 2, 1) := by decide +kernel
theorem dX4_isHeldTie_3 : decode cX4_isHeldTie 3 = .ok (.iload_n 3, 1) := by decide +kernel
theorem dX4_isHeldTie_4 : decode cX4_isHeldTie 4 = .ok (.invokevirtual 57, 3) := by decide +kernel
theorem dX4_isHeldTie_7 : decode cX4_isHeldTie 7 = .ok (.istore 4, 2) := by decide +kernel
theorem dX4_isHeldTie_9 : decode cX4_isHeldTie 9 = .ok (.iload 4, 2) := by decide +kernel
theorem dX4_isHeldTie_11 : decode cX4_isHeldTie 11 = .ok (.invokestatic 70, 3) := by decide +kernel
theorem dX4_isHeldTie_14 : decode cX4_isHeldTie 14 = .ok (.ifCond .eq 22, 3) := by decide +kernel
theorem dX4_isHeldTie_17 : decode cX4_isHeldTie 17 = .ok (.iload 4, 2) := by decide +kernel
theorem dX4_isHeldTie_19 : decode cX4_isHeldTie 19 = .ok (.aload_n 0, 1) := by decide +kernel
theorem dX4_isHeldTie_20 : decode cX4_isHeldTie 20 = .ok (.iload_n 1, 1) := by decide +kernel
theorem dX4_isHeldTie_21 : decode cX4_isHeldTie 21 = .ok (.iload_n 2, 1) := by decide +kernel
theorem dX4_isHeldTie_22 : decode cX4_isHeldTie 22 = .ok (.iload_n 3, 1) := by decide +kernel
theorem dX4_isHeldTie_23 : decode cX4_isHeldTie 23 = .ok (.invokevirtual 73, 3) := by decide +kernel
theorem dX4_isHeldTie_26 : decode cX4_isHeldTie 26 = .ok (.invokestatic 76, 3) := by decide +kernel
theorem dX4_isHeldTie_29 : decode cX4_isHeldTie 29 = .ok (.ifCond .eq 7, 3) := by decide +kernel
theorem dX4_isHeldTie_32 : decode cX4_isHeldTie 32 = .ok (.iconst 1, 1) := by decide +kernel
theorem dX4_isHeldTie_33 : decode cX4_isHeldTie 33 = .ok (.goto 4, 3) := by decide +kernel
theorem dX4_isHeldTie_36 : decode cX4_isHeldTie 36 = .ok (.iconst 0, 1) := by decide +kernel
theorem dX4_isHeldTie_37 : decode cX4_isHeldTie 37 = .ok (.ireturn, 1) := by decide +kernel
theorem dX4_becomeDraft_0 : decode cX4_becomeDraft 0 = .ok (.aload_n 0, 1) := by decide +kernel
theorem dX4_becomeDraft_1 : decode cX4_becomeDraft 1 = .ok (.iconst 0, 1) := by decide +kernel
theorem dX4_becomeDraft_2 : decode cX4_becomeDraft 2 = .ok (.putfield 13, 3) := by decide +kernel
theorem dX4_becomeDraft_5 : decode cX4_becomeDraft 5 = .ok (.aload_n 0, 1) := by decide +kernel
theorem dX4_becomeDraft_6 : decode cX4_becomeDraft 6 = .ok (.invokevirtual 80, 3) := by decide +kernel
theorem dX4_becomeDraft_9 : decode cX4_becomeDraft 9 = .ok (.iconst 0, 1) := by decide +kernel
theorem dX4_becomeDraft_10 : decode cX4_becomeDraft 10 = .ok (.istore_n 1, 1) := by decide +kernel
theorem dX4_becomeDraft_11 : decode cX4_becomeDraft 11 = .ok (.iload_n 1, 1) := by decide +kernel
theorem dX4_becomeDraft_12 : decode cX4_becomeDraft 12 = .ok (.iconst 3, 1) := by decide +kernel
theorem dX4_becomeDraft_13 : decode cX4_becomeDraft 13 = .ok (.if_icmp .gt 17, 3) := by decide +kernel
theorem dX4_becomeDraft_16 : decode cX4_becomeDraft 16 = .ok (.aload_n 0, 1) := by decide +kernel
theorem dX4_becomeDraft_17 : decode cX4_becomeDraft 17 = .ok (.iconst 0, 1) := by decide +kernel
theorem dX4_becomeDraft_18 : decode cX4_becomeDraft 18 = .ok (.iload_n 1, 1) := by decide +kernel
theorem dX4_becomeDraft_19 : decode cX4_becomeDraft 19 = .ok (.bipush (-100), 2) := by decide +kernel
theorem dX4_becomeDraft_21 : decode cX4_becomeDraft 21 = .ok (.invokevirtual 43, 3) := by decide +kernel
theorem dX4_becomeDraft_24 : decode cX4_becomeDraft 24 = .ok (.iinc 1 1, 3) := by decide +kernel
theorem dX4_becomeDraft_27 : decode cX4_becomeDraft 27 = .ok (.goto (-16), 3) := by decide +kernel
theorem dX4_becomeDraft_30 : decode cX4_becomeDraft 30 = .ok (.return_, 1) := by decide +kernel
theorem dX4_takeDraft_0 : decode cX4_takeDraft 0 = .ok (.aload_n 0, 1) := by decide +kernel
theorem dX4_takeDraft_1 : decode cX4_takeDraft 1 = .ok (.iload_n 1, 1) := by decide +kernel
theorem dX4_takeDraft_2 : decode cX4_takeDraft 2 = .ok (.iconst 0, 1) := by decide +kernel
theorem dX4_takeDraft_3 : decode cX4_takeDraft 3 = .ok (.invokevirtual 17, 3) := by decide +kernel
theorem dX4_takeDraft_6 : decode cX4_takeDraft 6 = .ok (.istore_n 3, 1) := by decide +kernel
theorem dX4_takeDraft_7 : decode cX4_takeDraft 7 = .ok (.iload_n 3, 1) := by decide +kernel
theorem dX4_takeDraft_8 : decode cX4_takeDraft 8 = .ok (.ifCond .ge 4, 3) := by decide +kernel
theorem dX4_takeDraft_11 : decode cX4_takeDraft 11 = .ok (.return_, 1) := by decide +kernel
theorem dX4_takeDraft_12 : decode cX4_takeDraft 12 = .ok (.iconst 0, 1) := by decide +kernel
theorem dX4_takeDraft_13 : decode cX4_takeDraft 13 = .ok (.istore 4, 2) := by decide +kernel
theorem dX4_takeDraft_15 : decode cX4_takeDraft 15 = .ok (.iload 4, 2) := by decide +kernel
theorem dX4_takeDraft_17 : decode cX4_takeDraft 17 = .ok (.bipush 7, 2) := by decide +kernel
theorem dX4_takeDraft_19 : decode cX4_takeDraft 19 = .ok (.if_icmp .ge 34, 3) := by decide +kernel
theorem dX4_takeDraft_22 : decode cX4_takeDraft 22 = .ok (.aload_n 2, 1) := by decide +kernel
theorem dX4_takeDraft_23 : decode cX4_takeDraft 23 = .ok (.iconst 0, 1) := by decide +kernel
theorem dX4_takeDraft_24 : decode cX4_takeDraft 24 = .ok (.iload 4, 2) := by decide +kernel
theorem dX4_takeDraft_26 : decode cX4_takeDraft 26 = .ok (.invokevirtual 40, 3) := by decide +kernel
theorem dX4_takeDraft_29 : decode cX4_takeDraft 29 = .ok (.istore 5, 2) := by decide +kernel
theorem dX4_takeDraft_31 : decode cX4_takeDraft 31 = .ok (.iload 5, 2) := by decide +kernel
theorem dX4_takeDraft_33 : decode cX4_takeDraft 33 = .ok (.bipush (-100), 2) := by decide +kernel
theorem dX4_takeDraft_35 : decode cX4_takeDraft 35 = .ok (.if_icmp .eq 12, 3) := by decide +kernel
theorem dX4_takeDraft_38 : decode cX4_takeDraft 38 = .ok (.aload_n 0, 1) := by decide +kernel
theorem dX4_takeDraft_39 : decode cX4_takeDraft 39 = .ok (.iload_n 1, 1) := by decide +kernel
theorem dX4_takeDraft_40 : decode cX4_takeDraft 40 = .ok (.iload 4, 2) := by decide +kernel
theorem dX4_takeDraft_42 : decode cX4_takeDraft 42 = .ok (.iload 5, 2) := by decide +kernel
theorem dX4_takeDraft_44 : decode cX4_takeDraft 44 = .ok (.invokevirtual 43, 3) := by decide +kernel
theorem dX4_takeDraft_47 : decode cX4_takeDraft 47 = .ok (.iinc 4 1, 3) := by decide +kernel
theorem dX4_takeDraft_50 : decode cX4_takeDraft 50 = .ok (.goto (-35), 3) := by decide +kernel
theorem dX4_takeDraft_53 : decode cX4_takeDraft 53 = .ok (.aload_n 2, 1) := by decide +kernel
theorem dX4_takeDraft_54 : decode cX4_takeDraft 54 = .ok (.getfield 9, 3) := by decide +kernel
theorem dX4_takeDraft_57 : decode cX4_takeDraft 57 = .ok (.bipush 7, 2) := by decide +kernel
theorem dX4_takeDraft_59 : decode cX4_takeDraft 59 = .ok (.aload_n 0, 1) := by decide +kernel
theorem dX4_takeDraft_60 : decode cX4_takeDraft 60 = .ok (.getfield 9, 3) := by decide +kernel
theorem dX4_takeDraft_63 : decode cX4_takeDraft 63 = .ok (.iload_n 3, 1) := by decide +kernel
theorem dX4_takeDraft_64 : decode cX4_takeDraft 64 = .ok (.bipush 50, 2) := by decide +kernel
theorem dX4_takeDraft_66 : decode cX4_takeDraft 66 = .ok (.invokestatic 47, 3) := by decide +kernel
theorem dX4_takeDraft_69 : decode cX4_takeDraft 69 = .ok (.return_, 1) := by decide +kernel
theorem dX4_agreesWith_0 : decode cX4_agreesWith 0 = .ok (.iconst 0, 1) := by decide +kernel
theorem dX4_agreesWith_1 : decode cX4_agreesWith 1 = .ok (.istore_n 3, 1) := by decide +kernel
theorem dX4_agreesWith_2 : decode cX4_agreesWith 2 = .ok (.iload_n 3, 1) := by decide +kernel
theorem dX4_agreesWith_3 : decode cX4_agreesWith 3 = .ok (.bipush 7, 2) := by decide +kernel
theorem dX4_agreesWith_5 : decode cX4_agreesWith 5 = .ok (.if_icmp .ge 37, 3) := by decide +kernel
theorem dX4_agreesWith_8 : decode cX4_agreesWith 8 = .ok (.aload_n 2, 1) := by decide +kernel
theorem dX4_agreesWith_9 : decode cX4_agreesWith 9 = .ok (.iconst 0, 1) := by decide +kernel
theorem dX4_agreesWith_10 : decode cX4_agreesWith 10 = .ok (.iload_n 3, 1) := by decide +kernel
theorem dX4_agreesWith_11 : decode cX4_agreesWith 11 = .ok (.invokevirtual 40, 3) := by decide +kernel
theorem dX4_agreesWith_14 : decode cX4_agreesWith 14 = .ok (.istore 4, 2) := by decide +kernel
theorem dX4_agreesWith_16 : decode cX4_agreesWith 16 = .ok (.iload 4, 2) := by decide +kernel
theorem dX4_agreesWith_18 : decode cX4_agreesWith 18 = .ok (.bipush (-100), 2) := by decide +kernel
theorem dX4_agreesWith_20 : decode cX4_agreesWith 20 = .ok (.if_icmp .eq 16, 3) := by decide +kernel
theorem dX4_agreesWith_23 : decode cX4_agreesWith 23 = .ok (.iload 4, 2) := by decide +kernel
theorem dX4_agreesWith_25 : decode cX4_agreesWith 25 = .ok (.aload_n 0, 1) := by decide +kernel
theorem dX4_agreesWith_26 : decode cX4_agreesWith 26 = .ok (.iload_n 1, 1) := by decide +kernel
theorem dX4_agreesWith_27 : decode cX4_agreesWith 27 = .ok (.iload_n 3, 1) := by decide +kernel
theorem dX4_agreesWith_28 : decode cX4_agreesWith 28 = .ok (.invokevirtual 40, 3) := by decide +kernel
theorem dX4_agreesWith_31 : decode cX4_agreesWith 31 = .ok (.if_icmp .eq 5, 3) := by decide +kernel
theorem dX4_agreesWith_34 : decode cX4_agreesWith 34 = .ok (.iconst 0, 1) := by decide +kernel
theorem dX4_agreesWith_35 : decode cX4_agreesWith 35 = .ok (.ireturn, 1) := by decide +kernel
theorem dX4_agreesWith_36 : decode cX4_agreesWith 36 = .ok (.iinc 3 1, 3) := by decide +kernel
theorem dX4_agreesWith_39 : decode cX4_agreesWith 39 = .ok (.goto (-37), 3) := by decide +kernel
theorem dX4_agreesWith_42 : decode cX4_agreesWith 42 = .ok (.aload_n 0, 1) := by decide +kernel
theorem dX4_agreesWith_43 : decode cX4_agreesWith 43 = .ok (.iload_n 1, 1) := by decide +kernel
theorem dX4_agreesWith_44 : decode cX4_agreesWith 44 = .ok (.aload_n 2, 1) := by decide +kernel
theorem dX4_agreesWith_45 : decode cX4_agreesWith 45 = .ok (.iconst 0, 1) := by decide +kernel
theorem dX4_agreesWith_46 : decode cX4_agreesWith 46 = .ok (.invokevirtual 83, 3) := by decide +kernel
theorem dX4_agreesWith_49 : decode cX4_agreesWith 49 = .ok (.ifCond .eq 17, 3) := by decide +kernel
theorem dX4_agreesWith_52 : decode cX4_agreesWith 52 = .ok (.aload_n 0, 1) := by decide +kernel
theorem dX4_agreesWith_53 : decode cX4_agreesWith 53 = .ok (.iload_n 1, 1) := by decide +kernel
theorem dX4_agreesWith_54 : decode cX4_agreesWith 54 = .ok (.aload_n 2, 1) := by decide +kernel
theorem dX4_agreesWith_55 : decode cX4_agreesWith 55 = .ok (.iconst 1, 1) := by decide +kernel
theorem dX4_agreesWith_56 : decode cX4_agreesWith 56 = .ok (.invokevirtual 83, 3) := by decide +kernel
theorem dX4_agreesWith_59 : decode cX4_agreesWith 59 = .ok (.ifCond .eq 7, 3) := by decide +kernel
theorem dX4_agreesWith_62 : decode cX4_agreesWith 62 = .ok (.iconst 1, 1) := by decide +kernel
theorem dX4_agreesWith_63 : decode cX4_agreesWith 63 = .ok (.goto 4, 3) := by decide +kernel
theorem dX4_agreesWith_66 : decode cX4_agreesWith 66 = .ok (.iconst 0, 1) := by decide +kernel
theorem dX4_agreesWith_67 : decode cX4_agreesWith 67 = .ok (.ireturn, 1) := by decide +kernel
theorem dX4_hasVoiceOf_0 : decode cX4_hasVoiceOf 0 = .ok (.aload_n 0, 1) := by decide +kernel
theorem dX4_hasVoiceOf_1 : decode cX4_hasVoiceOf 1 = .ok (.iload_n 1, 1) := by decide +kernel
theorem dX4_hasVoiceOf_2 : decode cX4_hasVoiceOf 2 = .ok (.iload_n 3, 1) := by decide +kernel
theorem dX4_hasVoiceOf_3 : decode cX4_hasVoiceOf 3 = .ok (.invokevirtual 21, 3) := by decide +kernel
theorem dX4_hasVoiceOf_6 : decode cX4_hasVoiceOf 6 = .ok (.aload_n 2, 1) := by decide +kernel
theorem dX4_hasVoiceOf_7 : decode cX4_hasVoiceOf 7 = .ok (.iconst 0, 1) := by decide +kernel
theorem dX4_hasVoiceOf_8 : decode cX4_hasVoiceOf 8 = .ok (.iload_n 3, 1) := by decide +kernel
theorem dX4_hasVoiceOf_9 : decode cX4_hasVoiceOf 9 = .ok (.invokevirtual 21, 3) := by decide +kernel
theorem dX4_hasVoiceOf_12 : decode cX4_hasVoiceOf 12 = .ok (.if_icmp .eq 5, 3) := by decide +kernel
theorem dX4_hasVoiceOf_15 : decode cX4_hasVoiceOf 15 = .ok (.iconst 0, 1) := by decide +kernel
theorem dX4_hasVoiceOf_16 : decode cX4_hasVoiceOf 16 = .ok (.ireturn, 1) := by decide +kernel
theorem dX4_hasVoiceOf_17 : decode cX4_hasVoiceOf 17 = .ok (.iconst 0, 1) := by decide +kernel
theorem dX4_hasVoiceOf_18 : decode cX4_hasVoiceOf 18 = .ok (.istore 4, 2) := by decide +kernel
theorem dX4_hasVoiceOf_20 : decode cX4_hasVoiceOf 20 = .ok (.iload 4, 2) := by decide +kernel
theorem dX4_hasVoiceOf_22 : decode cX4_hasVoiceOf 22 = .ok (.aload_n 0, 1) := by decide +kernel
theorem dX4_hasVoiceOf_23 : decode cX4_hasVoiceOf 23 = .ok (.iload_n 1, 1) := by decide +kernel
theorem dX4_hasVoiceOf_24 : decode cX4_hasVoiceOf 24 = .ok (.iload_n 3, 1) := by decide +kernel
theorem dX4_hasVoiceOf_25 : decode cX4_hasVoiceOf 25 = .ok (.invokevirtual 21, 3) := by decide +kernel
theorem dX4_hasVoiceOf_28 : decode cX4_hasVoiceOf 28 = .ok (.if_icmp .ge 30, 3) := by decide +kernel
theorem dX4_hasVoiceOf_31 : decode cX4_hasVoiceOf 31 = .ok (.aload_n 0, 1) := by decide +kernel
theorem dX4_hasVoiceOf_32 : decode cX4_hasVoiceOf 32 = .ok (.iload_n 1, 1) := by decide +kernel
theorem dX4_hasVoiceOf_33 : decode cX4_hasVoiceOf 33 = .ok (.iload_n 3, 1) := by decide +kernel
theorem dX4_hasVoiceOf_34 : decode cX4_hasVoiceOf 34 = .ok (.iload 4, 2) := by decide +kernel
theorem dX4_hasVoiceOf_36 : decode cX4_hasVoiceOf 36 = .ok (.invokevirtual 57, 3) := by decide +kernel
theorem dX4_hasVoiceOf_39 : decode cX4_hasVoiceOf 39 = .ok (.aload_n 2, 1) := by decide +kernel
theorem dX4_hasVoiceOf_40 : decode cX4_hasVoiceOf 40 = .ok (.iconst 0, 1) := by decide +kernel
theorem dX4_hasVoiceOf_41 : decode cX4_hasVoiceOf 41 = .ok (.iload_n 3, 1) := by decide +kernel
theorem dX4_hasVoiceOf_42 : decode cX4_hasVoiceOf 42 = .ok (.iload 4, 2) := by decide +kernel
theorem dX4_hasVoiceOf_44 : decode cX4_hasVoiceOf 44 = .ok (.invokevirtual 57, 3) := by decide +kernel
theorem dX4_hasVoiceOf_47 : decode cX4_hasVoiceOf 47 = .ok (.if_icmp .eq 5, 3) := by decide +kernel
theorem dX4_hasVoiceOf_50 : decode cX4_hasVoiceOf 50 = .ok (.iconst 0, 1) := by decide +kernel
theorem dX4_hasVoiceOf_51 : decode cX4_hasVoiceOf 51 = .ok (.ireturn, 1) := by decide +kernel
theorem dX4_hasVoiceOf_52 : decode cX4_hasVoiceOf 52 = .ok (.iinc 4 1, 3) := by decide +kernel
theorem dX4_hasVoiceOf_55 : decode cX4_hasVoiceOf 55 = .ok (.goto (-35), 3) := by decide +kernel
theorem dX4_hasVoiceOf_58 : decode cX4_hasVoiceOf 58 = .ok (.iconst 1, 1) := by decide +kernel
theorem dX4_hasVoiceOf_59 : decode cX4_hasVoiceOf 59 = .ok (.ireturn, 1) := by decide +kernel
theorem dX5_init_0 : decode cX5_init 0 = .ok (.aload_n 0, 1) := by decide +kernel
theorem dX5_init_1 : decode cX5_init 1 = .ok (.invokespecial 1, 3) := by decide +kernel
theorem dX5_init_4 : decode cX5_init 4 = .ok (.aload_n 0, 1) := by decide +kernel
theorem dX5_init_5 : decode cX5_init 5 = .ok (.sipush 1702, 3) := by decide +kernel
theorem dX5_init_8 : decode cX5_init 8 = .ok (.newarray .byte, 2) := by decide +kernel
theorem dX5_init_10 : decode cX5_init 10 = .ok (.putfield 9, 3) := by decide +kernel
theorem dX5_init_13 : decode cX5_init 13 = .ok (.return_, 1) := by decide +kernel
theorem dX5_length_0 : decode cX5_length 0 = .ok (.aload_n 0, 1) := by decide +kernel
theorem dX5_length_1 : decode cX5_length 1 = .ok (.getfield 13, 3) := by decide +kernel
theorem dX5_length_4 : decode cX5_length 4 = .ok (.ireturn, 1) := by decide +kernel
theorem dX5_wordCount_0 : decode cX5_wordCount 0 = .ok (.aload_n 0, 1) := by decide +kernel
theorem dX5_wordCount_1 : decode cX5_wordCount 1 = .ok (.getfield 17, 3) := by decide +kernel
theorem dX5_wordCount_4 : decode cX5_wordCount 4 = .ok (.ireturn, 1) := by decide +kernel
theorem dX5_at_0 : decode cX5_at 0 = .ok (.iload_n 1, 1) := by decide +kernel
theorem dX5_at_1 : decode cX5_at 1 = .ok (.ifCond .lt 27, 3) := by decide +kernel
theorem dX5_at_4 : decode cX5_at 4 = .ok (.iload_n 1, 1) := by decide +kernel
theorem dX5_at_5 : decode cX5_at 5 = .ok (.aload_n 0, 1) := by decide +kernel
theorem dX5_at_6 : decode cX5_at 6 = .ok (.getfield 13, 3) := by decide +kernel
theorem dX5_at_9 : decode cX5_at 9 = .ok (.if_icmp .ge 19, 3) := by decide +kernel
theorem dX5_at_12 : decode cX5_at 12 = .ok (.iload_n 1, 1) := by decide +kernel
theorem dX5_at_13 : decode cX5_at 13 = .ok (.sipush 1702, 3) := by decide +kernel
theorem dX5_at_16 : decode cX5_at 16 = .ok (.if_icmp .ge 12, 3) := by decide +kernel
theorem dX5_at_19 : decode cX5_at 19 = .ok (.aload_n 0, 1) := by decide +kernel
theorem dX5_at_20 : decode cX5_at 20 = .ok (.getfield 9, 3) := by decide +kernel
theorem dX5_at_23 : decode cX5_at 23 = .ok (.iload_n 1, 1) := by decide +kernel
theorem dX5_at_24 : decode cX5_at 24 = .ok (.baload, 1) := by decide +kernel
theorem dX5_at_25 : decode cX5_at 25 = .ok (.goto 4, 3) := by decide +kernel
theorem dX5_at_28 : decode cX5_at 28 = .ok (.iconst 0, 1) := by decide +kernel
theorem dX5_at_29 : decode cX5_at 29 = .ok (.ireturn, 1) := by decide +kernel
theorem dX5_tellMeasure_0 : decode cX5_tellMeasure 0 = .ok (.aload_n 0, 1) := by decide +kernel
theorem dX5_tellMeasure_1 : decode cX5_tellMeasure 1 = .ok (.iconst 0, 1) := by decide +kernel
theorem dX5_tellMeasure_2 : decode cX5_tellMeasure 2 = .ok (.putfield 13, 3) := by decide +kernel
theorem dX5_tellMeasure_5 : decode cX5_tellMeasure 5 = .ok (.aload_n 0, 1) := by decide +kernel
theorem dX5_tellMeasure_6 : decode cX5_tellMeasure 6 = .ok (.iconst 0, 1) := by decide +kernel
theorem dX5_tellMeasure_7 : decode cX5_tellMeasure 7 = .ok (.putfield 17, 3) := by decide +kernel
theorem dX5_tellMeasure_10 : decode cX5_tellMeasure 10 = .ok (.aload_n 0, 1) := by decide +kernel
theorem dX5_tellMeasure_11 : decode cX5_tellMeasure 11 = .ok (.ldc 22, 2) := by decide +kernel
theorem dX5_tellMeasure_13 : decode cX5_tellMeasure 13 = .ok (.iload_n 2, 1) := by decide +kernel
theorem dX5_tellMeasure_14 : decode cX5_tellMeasure 14 = .ok (.iconst 1, 1) := by decide +kernel
theorem dX5_tellMeasure_15 : decode cX5_tellMeasure 15 = .ok (.iadd, 1) := by decide +kernel
theorem dX5_tellMeasure_16 : decode cX5_tellMeasure 16 = .ok (.invokevirtual 24, 3) := by decide +kernel
theorem dX5_tellMeasure_19 : decode cX5_tellMeasure 19 = .ok (.aload_n 1, 1) := by decide +kernel
theorem dX5_tellMeasure_20 : decode cX5_tellMeasure 20 = .ok (.iload_n 2, 1) := by decide +kernel
theorem dX5_tellMeasure_21 : decode cX5_tellMeasure 21 = .ok (.iconst 4, 1) := by decide +kernel
theorem dX5_tellMeasure_22 : decode cX5_tellMeasure 22 = .ok (.invokevirtual 30, 3) := by decide +kernel
theorem dX5_tellMeasure_25 : decode cX5_tellMeasure 25 = .ok (.iconst 1, 1) := by decide +kernel
theorem dX5_tellMeasure_26 : decode cX5_tellMeasure 26 = .ok (.if_icmp .ne 9, 3) := by decide +kernel
theorem dX5_tellMeasure_29 : decode cX5_tellMeasure 29 = .ok (.aload_n 0, 1) := by decide +kernel
theorem dX5_tellMeasure_30 : decode cX5_tellMeasure 30 = .ok (.ldc 34, 2) := by decide +kernel
theorem dX5_tellMeasure_32 : decode cX5_tellMeasure 32 = .ok (.invokevirtual 36, 3) := by decide +kernel
theorem dX5_tellMeasure_35 : decode cX5_tellMeasure 35 = .ok (.aload_n 1, 1) := by decide +kernel
theorem dX5_tellMeasure_36 : decode cX5_tellMeasure 36 = .ok (.iload_n 2, 1) := by decide +kernel
theorem dX5_tellMeasure_37 : decode cX5_tellMeasure 37 = .ok (.bipush 6, 2) := by decide +kernel
theorem dX5_tellMeasure_39 : decode cX5_tellMeasure 39 = .ok (.invokevirtual 30, 3) := by decide +kernel
theorem dX5_tellMeasure_42 : decode cX5_tellMeasure 42 = .ok (.ifCond .eq 16, 3) := by decide +kernel
theorem dX5_tellMeasure_45 : decode cX5_tellMeasure 45 = .ok (.aload_n 0, 1) := by decide +kernel
theorem dX5_tellMeasure_46 : decode cX5_tellMeasure 46 = .ok (.ldc 40, 2) := by decide +kernel
theorem dX5_tellMeasure_48 : decode cX5_tellMeasure 48 = .ok (.aload_n 1, 1) := by decide +kernel
theorem dX5_tellMeasure_49 : decode cX5_tellMeasure 49 = .ok (.iload_n 2, 1) := by decide +kernel
theorem dX5_tellMeasure_50 : decode cX5_tellMeasure 50 = .ok (.bipush 6, 2) := by decide +kernel
theorem dX5_tellMeasure_52 : decode cX5_tellMeasure 52 = .ok (.invokevirtual 30, 3) := by decide +kernel
theorem dX5_tellMeasure_55 : decode cX5_tellMeasure 55 = .ok (.invokevirtual 24, 3) := by decide +kernel
theorem dX5_tellMeasure_58 : decode cX5_tellMeasure 58 = .ok (.iload_n 2, 1) := by decide +kernel
theorem dX5_tellMeasure_59 : decode cX5_tellMeasure 59 = .ok (.ifCond .eq 12, 3) := by decide +kernel
theorem dX5_tellMeasure_62 : decode cX5_tellMeasure 62 = .ok (.aload_n 1, 1) := by decide +kernel
theorem dX5_tellMeasure_63 : decode cX5_tellMeasure 63 = .ok (.iload_n 2, 1) := by decide +kernel
theorem dX5_tellMeasure_64 : decode cX5_tellMeasure 64 = .ok (.iconst 0, 1) := by decide +kernel
theorem dX5_tellMeasure_65 : decode cX5_tellMeasure 65 = .ok (.invokestatic 42, 3) := by decide +kernel
theorem dX5_tellMeasure_68 : decode cX5_tellMeasure 68 = .ok (.ifCond .eq 13, 3) := by decide +kernel
theorem dX5_tellMeasure_71 : decode cX5_tellMeasure 71 = .ok (.aload_n 0, 1) := by decide +kernel
theorem dX5_tellMeasure_72 : decode cX5_tellMeasure 72 = .ok (.aload_n 1, 1) := by decide +kernel
theorem dX5_tellMeasure_73 : decode cX5_tellMeasure 73 = .ok (.iload_n 2, 1) := by decide +kernel
theorem dX5_tellMeasure_74 : decode cX5_tellMeasure 74 = .ok (.iconst 0, 1) := by decide +kernel
theorem dX5_tellMeasure_75 : decode cX5_tellMeasure 75 = .ok (.invokevirtual 30, 3) := by decide +kernel
theorem dX5_tellMeasure_78 : decode cX5_tellMeasure 78 = .ok (.invokevirtual 46, 3) := by decide +kernel
theorem dX5_tellMeasure_81 : decode cX5_tellMeasure 81 = .ok (.iload_n 2, 1) := by decide +kernel
theorem dX5_tellMeasure_82 : decode cX5_tellMeasure 82 = .ok (.ifCond .eq 21, 3) := by decide +kernel
theorem dX5_tellMeasure_85 : decode cX5_tellMeasure 85 = .ok (.aload_n 1, 1) := by decide +kernel
theorem dX5_tellMeasure_86 : decode cX5_tellMeasure 86 = .ok (.iload_n 2, 1) := by decide +kernel
theorem dX5_tellMeasure_87 : decode cX5_tellMeasure 87 = .ok (.iconst 1, 1) := by decide +kernel
theorem dX5_tellMeasure_88 : decode cX5_tellMeasure 88 = .ok (.invokestatic 42, 3) := by decide +kernel
theorem dX5_tellMeasure_91 : decode cX5_tellMeasure 91 = .ok (.ifCond .ne 12, 3) := by decide +kernel
theorem dX5_tellMeasure_94 : decode cX5_tellMeasure 94 = .ok (.aload_n 1, 1) := by decide +kernel
theorem dX5_tellMeasure_95 : decode cX5_tellMeasure 95 = .ok (.iload_n 2, 1) := by decide +kernel
theorem dX5_tellMeasure_96 : decode cX5_tellMeasure 96 = .ok (.iconst 2, 1) := by decide +kernel
theorem dX5_tellMeasure_97 : decode cX5_tellMeasure 97 = .ok (.invokestatic 42, 3) := by decide +kernel
theorem dX5_tellMeasure_100 : decode cX5_tellMeasure 100 = .ok (.ifCond .eq 25, 3) := by decide +kernel
theorem dX5_tellMeasure_103 : decode cX5_tellMeasure 103 = .ok (.aload_n 0, 1) := by decide +kernel
theorem dX5_tellMeasure_104 : decode cX5_tellMeasure 104 = .ok (.ldc 50, 2) := by decide +kernel
theorem dX5_tellMeasure_106 : decode cX5_tellMeasure 106 = .ok (.aload_n 1, 1) := by decide +kernel
theorem dX5_tellMeasure_107 : decode cX5_tellMeasure 107 = .ok (.iload_n 2, 1) := by decide +kernel
theorem dX5_tellMeasure_108 : decode cX5_tellMeasure 108 = .ok (.iconst 1, 1) := by decide +kernel
theorem dX5_tellMeasure_109 : decode cX5_tellMeasure 109 = .ok (.invokevirtual 30, 3) := by decide +kernel
theorem dX5_tellMeasure_112 : decode cX5_tellMeasure 112 = .ok (.invokevirtual 24, 3) := by decide +kernel
theorem dX5_tellMeasure_115 : decode cX5_tellMeasure 115 = .ok (.aload_n 0, 1) := by decide +kernel
theorem dX5_tellMeasure_116 : decode cX5_tellMeasure 116 = .ok (.aload_n 1, 1) := by decide +kernel
theorem dX5_tellMeasure_117 : decode cX5_tellMeasure 117 = .ok (.iload_n 2, 1) := by decide +kernel
theorem dX5_tellMeasure_118 : decode cX5_tellMeasure 118 = .ok (.iconst 2, 1) := by decide +kernel
theorem dX5_tellMeasure_119 : decode cX5_tellMeasure 119 = .ok (.invokevirtual 30, 3) := by decide +kernel
theorem dX5_tellMeasure_122 : decode cX5_tellMeasure 122 = .ok (.invokevirtual 52, 3) := by decide +kernel
theorem dX5_tellMeasure_125 : decode cX5_tellMeasure 125 = .ok (.iconst 0, 1) := by decide +kernel
theorem dX5_tellMeasure_126 : decode cX5_tellMeasure 126 = .ok (.istore_n 3, 1) := by decide +kernel
theorem dX5_tellMeasure_127 : decode cX5_tellMeasure 127 = .ok (.iload_n 3, 1) := by decide +kernel
theorem dX5_tellMeasure_128 : decode cX5_tellMeasure 128 = .ok (.iconst 2, 1) := by decide +kernel
theorem dX5_tellMeasure_129 : decode cX5_tellMeasure 129 = .ok (.if_icmp .ge 16, 3) := by decide +kernel
theorem dX5_tellMeasure_132 : decode cX5_tellMeasure 132 = .ok (.aload_n 0, 1) := by decide +kernel
theorem dX5_tellMeasure_133 : decode cX5_tellMeasure 133 = .ok (.aload_n 1, 1) := by decide +kernel
theorem dX5_tellMeasure_134 : decode cX5_tellMeasure 134 = .ok (.iload_n 2, 1) := by decide +kernel
theorem dX5_tellMeasure_135 : decode cX5_tellMeasure 135 = .ok (.iload_n 3, 1) := by decide +kernel
theorem dX5_tellMeasure_136 : decode cX5_tellMeasure 136 = .ok (.invokevirtual 55, 3) := by decide +kernel
theorem dX5_tellMeasure_139 : decode cX5_tellMeasure 139 = .ok (.iinc 3 1, 3) := by decide +kernel
theorem dX5_tellMeasure_142 : decode cX5_tellMeasure 142 = .ok (.goto (-15), 3) := by decide +kernel
theorem dX5_tellMeasure_145 : decode cX5_tellMeasure 145 = .ok (.aload_n 1, 1) := by decide +kernel
theorem dX5_tellMeasure_146 : decode cX5_tellMeasure 146 = .ok (.iload_n 2, 1) := by decide +kernel
theorem dX5_tellMeasure_147 : decode cX5_tellMeasure 147 = .ok (.iconst 5, 1) := by decide +kernel
theorem dX5_tellMeasure_148 : decode cX5_tellMeasure 148 = .ok (.invokevirtual 30, 3) := by decide +kernel
theorem dX5_tellMeasure_151 : decode cX5_tellMeasure 151 = .ok (.ifCond .eq 15, 3) := by decide +kernel
theorem dX5_tellMeasure_154 : decode cX5_tellMeasure 154 = .ok (.aload_n 0, 1) := by decide +kernel
theorem dX5_tellMeasure_155 : decode cX5_tellMeasure 155 = .ok (.ldc 59, 2) := by decide +kernel
theorem dX5_tellMeasure_157 : decode cX5_tellMeasure 157 = .ok (.aload_n 1, 1) := by decide +kernel
theorem dX5_tellMeasure_158 : decode cX5_tellMeasure 158 = .ok (.iload_n 2, 1) := by decide +kernel
theorem dX5_tellMeasure_159 : decode cX5_tellMeasure 159 = .ok (.iconst 5, 1) := by decide +kernel
theorem dX5_tellMeasure_160 : decode cX5_tellMeasure 160 = .ok (.invokevirtual 30, 3) := by decide +kernel
theorem dX5_tellMeasure_163 : decode cX5_tellMeasure 163 = .ok (.invokevirtual 24, 3) := by decide +kernel
theorem dX5_tellMeasure_166 : decode cX5_tellMeasure 166 = .ok (.aload_n 0, 1) := by decide +kernel
theorem dX5_tellMeasure_167 : decode cX5_tellMeasure 167 = .ok (.ldc 61, 2) := by decide +kernel
theorem dX5_tellMeasure_169 : decode cX5_tellMeasure 169 = .ok (.invokevirtual 36, 3) := by decide +kernel
theorem dX5_tellMeasure_172 : decode cX5_tellMeasure 172 = .ok (.return_, 1) := by decide +kernel
theorem dX5_differsFromBefore_0 : decode cX5_differsFromBefore 0 = .ok (.aload_n 0, 1) := by decide +kernel
theorem dX5_differsFromBefore_1 : decode cX5_differsFromBefore 1 = .ok (.iload_n 1, 1) := by decide +kernel
theorem dX5_differsFromBefore_2 : decode cX5_differsFromBefore 2 = .ok (.iload_n 2, 1) := by decide +kernel
theorem dX5_differsFromBefore_3 : decode cX5_differsFromBefore 3 = .ok (.invokevirtual 30, 3) := by decide +kernel
theorem dX5_differsFromBefore_6 : decode cX5_differsFromBefore 6 = .ok (.aload_n 0, 1) := by decide +kernel
theorem dX5_differsFromBefore_7 : decode cX5_differsFromBefore 7 = .ok (.iload_n 1, 1) := by decide +kernel
theorem dX5_differsFromBefore_8 : decode cX5_differsFromBefore 8 = .ok (.iconst 1, 1) := by decide +kernel
theorem dX5_differsFromBefore_9 : decode cX5_differsFromBefore 9 = .ok (.isub, 1) := by decide +kernel
theorem dX5_differsFromBefore_10 : decode cX5_differsFromBefore 10 = .ok (.iload_n 2, 1) := by decide +kernel
theorem dX5_differsFromBefore_11 : decode cX5_differsFromBefore 11 = .ok (.invokevirtual 30, 3) := by decide +kernel
theorem dX5_differsFromBefore_14 : decode cX5_differsFromBefore 14 = .ok (.if_icmp .eq 7, 3) := by decide +kernel
theorem dX5_differsFromBefore_17 : decode cX5_differsFromBefore 17 = .ok (.iconst 1, 1) := by decide +kernel
theorem dX5_differsFromBefore_18 : decode cX5_differsFromBefore 18 = .ok (.goto 4, 3) := by decide +kernel
theorem dX5_differsFromBefore_21 : decode cX5_differsFromBefore 21 = .ok (.iconst 0, 1) := by decide +kernel
theorem dX5_differsFromBefore_22 : decode cX5_differsFromBefore 22 = .ok (.ireturn, 1) := by decide +kernel
theorem dX5_tellKey_0 : decode cX5_tellKey 0 = .ok (.aload_n 0, 1) := by decide +kernel
theorem dX5_tellKey_1 : decode cX5_tellKey 1 = .ok (.ldc 63, 2) := by decide +kernel
theorem dX5_tellKey_3 : decode cX5_tellKey 3 = .ok (.invokevirtual 36, 3) := by decide +kernel
theorem dX5_tellKey_6 : decode cX5_tellKey 6 = .ok (.iload_n 1, 1) := by decide +kernel
theorem dX5_tellKey_7 : decode cX5_tellKey 7 = .ok (.ifCond .ne 12, 3) := by decide +kernel
theorem dX5_tellKey_10 : decode cX5_tellKey 10 = .ok (.aload_n 0, 1) := by decide +kernel
theorem dX5_tellKey_11 : decode cX5_tellKey 11 = .ok (.ldc 65, 2) := by decide +kernel
theorem dX5_tellKey_13 : decode cX5_tellKey 13 = .ok (.invokevirtual 36, 3) := by decide +kernel
theorem dX5_tellKey_16 : decode cX5_tellKey 16 = .ok (.goto 26, 3) := by decide +kernel
theorem dX5_tellKey_19 : decode cX5_tellKey 19 = .ok (.aload_n 0, 1) := by decide +kernel
theorem dX5_tellKey_20 : decode cX5_tellKey 20 = .ok (.iload_n 1, 1) := by decide +kernel
theorem dX5_tellKey_21 : decode cX5_tellKey 21 = .ok (.invokestatic 67, 3) := by decide +kernel
theorem dX5_tellKey_24 : decode cX5_tellKey 24 = .ok (.invokevirtual 52, 3) := by decide +kernel
theorem dX5_tellKey_27 : decode cX5_tellKey 27 = .ok (.aload_n 0, 1) := by decide +kernel
theorem dX5_tellKey_28 : decode cX5_tellKey 28 = .ok (.iload_n 1, 1) := by decide +kernel
theorem dX5_tellKey_29 : decode cX5_tellKey 29 = .ok (.ifCond .le 8, 3) := by decide +kernel
theorem dX5_tellKey_32 : decode cX5_tellKey 32 = .ok (.ldc 73, 2) := by decide +kernel
theorem dX5_tellKey_34 : decode cX5_tellKey 34 = .ok (.goto 5, 3) := by decide +kernel
theorem dX5_tellKey_37 : decode cX5_tellKey 37 = .ok (.ldc 75, 2) := by decide +kernel
theorem dX5_tellKey_39 : decode cX5_tellKey 39 = .ok (.invokevirtual 36, 3) := by decide +kernel
theorem dX5_tellKey_42 : decode cX5_tellKey 42 = .ok (.return_, 1) := by decide +kernel
theorem dX5_tellVoice_0 : decode cX5_tellVoice 0 = .ok (.aload_n 1, 1) := by decide +kernel
theorem dX5_tellVoice_1 : decode cX5_tellVoice 1 = .ok (.iload_n 2, 1) := by decide +kernel
theorem dX5_tellVoice_2 : decode cX5_tellVoice 2 = .ok (.iload_n 3, 1) := by decide +kernel
theorem dX5_tellVoice_3 : decode cX5_tellVoice 3 = .ok (.invokevirtual 77, 3) := by decide +kernel
theorem dX5_tellVoice_6 : decode cX5_tellVoice 6 = .ok (.ifCond .le 12, 3) := by decide +kernel
theorem dX5_tellVoice_9 : decode cX5_tellVoice 9 = .ok (.aload_n 0, 1) := by decide +kernel
theorem dX5_tellVoice_10 : decode cX5_tellVoice 10 = .ok (.ldc 80, 2) := by decide +kernel
theorem dX5_tellVoice_12 : decode cX5_tellVoice 12 = .ok (.iload_n 3, 1) := by decide +kernel
theorem dX5_tellVoice_13 : decode cX5_tellVoice 13 = .ok (.iconst 1, 1) := by decide +kernel
theorem dX5_tellVoice_14 : decode cX5_tellVoice 14 = .ok (.iadd, 1) := by decide +kernel
theorem dX5_tellVoice_15 : decode cX5_tellVoice 15 = .ok (.invokevirtual 24, 3) := by decide +kernel
theorem dX5_tellVoice_18 : decode cX5_tellVoice 18 = .ok (.iconst 0, 1) := by decide +kernel
theorem dX5_tellVoice_19 : decode cX5_tellVoice 19 = .ok (.istore 4, 2) := by decide +kernel
theorem dX5_tellVoice_21 : decode cX5_tellVoice 21 = .ok (.iload 4, 2) := by decide +kernel
theorem dX5_tellVoice_23 : decode cX5_tellVoice 23 = .ok (.aload_n 1, 1) := by decide +kernel
theorem dX5_tellVoice_24 : decode cX5_tellVoice 24 = .ok (.iload_n 2, 1) := by decide +kernel
theorem dX5_tellVoice_25 : decode cX5_tellVoice 25 = .ok (.iload_n 3, 1) := by decide +kernel
theorem dX5_tellVoice_26 : decode cX5_tellVoice 26 = .ok (.invokevirtual 77, 3) := by decide +kernel
theorem dX5_tellVoice_29 : decode cX5_tellVoice 29 = .ok (.if_icmp .ge 21, 3) := by decide +kernel
theorem dX5_tellVoice_32 : decode cX5_tellVoice 32 = .ok (.aload_n 0, 1) := by decide +kernel
theorem dX5_tellVoice_33 : decode cX5_tellVoice 33 = .ok (.aload_n 1, 1) := by decide +kernel
theorem dX5_tellVoice_34 : decode cX5_tellVoice 34 = .ok (.iload_n 2, 1) := by decide +kernel
theorem dX5_tellVoice_35 : decode cX5_tellVoice 35 = .ok (.iload_n 3, 1) := by decide +kernel
theorem dX5_tellVoice_36 : decode cX5_tellVoice 36 = .ok (.iload 4, 2) := by decide +kernel
theorem dX5_tellVoice_38 : decode cX5_tellVoice 38 = .ok (.invokevirtual 82, 3) := by decide +kernel
theorem dX5_tellVoice_41 : decode cX5_tellVoice 41 = .ok (.invokevirtual 86, 3) := by decide +kernel
theorem dX5_tellVoice_44 : decode cX5_tellVoice 44 = .ok (.iinc 4 1, 3) := by decide +kernel
theorem dX5_tellVoice_47 : decode cX5_tellVoice 47 = .ok (.goto (-26), 3) := by decide +kernel
theorem dX5_tellVoice_50 : decode cX5_tellVoice 50 = .ok (.return_, 1) := by decide +kernel
theorem dX5_tellEvent_0 : decode cX5_tellEvent 0 = .ok (.iload_n 1, 1) := by decide +kernel
theorem dX5_tellEvent_1 : decode cX5_tellEvent 1 = .ok (.invokestatic 89, 3) := by decide +kernel
theorem dX5_tellEvent_4 : decode cX5_tellEvent 4 = .ok (.ifCond .eq 47, 3) := by decide +kernel
theorem dX5_tellEvent_7 : decode cX5_tellEvent 7 = .ok (.aload_n 0, 1) := by decide +kernel
theorem dX5_tellEvent_8 : decode cX5_tellEvent 8 = .ok (.invokevirtual 95, 3) := by decide +kernel
theorem dX5_tellEvent_11 : decode cX5_tellEvent 11 = .ok (.aload_n 0, 1) := by decide +kernel
theorem dX5_tellEvent_12 : decode cX5_tellEvent 12 = .ok (.iload_n 1, 1) := by decide +kernel
theorem dX5_tellEvent_13 : decode cX5_tellEvent 13 = .ok (.invokestatic 98, 3) := by decide +kernel
theorem dX5_tellEvent_16 : decode cX5_tellEvent 16 = .ok (.invokestatic 101, 3) := by decide +kernel
theorem dX5_tellEvent_19 : decode cX5_tellEvent 19 = .ok (.invokevirtual 105, 3) := by decide +kernel
theorem dX5_tellEvent_22 : decode cX5_tellEvent 22 = .ok (.iload_n 1, 1) := by decide +kernel
theorem dX5_tellEvent_23 : decode cX5_tellEvent 23 = .ok (.invokestatic 108, 3) := by decide +kernel
theorem dX5_tellEvent_26 : decode cX5_tellEvent 26 = .ok (.ifCond .eq 14, 3) := by decide +kernel
theorem dX5_tellEvent_29 : decode cX5_tellEvent 29 = .ok (.aload_n 0, 1) := by decide +kernel
theorem dX5_tellEvent_30 : decode cX5_tellEvent 30 = .ok (.iload_n 1, 1) := by decide +kernel
theorem dX5_tellEvent_31 : decode cX5_tellEvent 31 = .ok (.invokestatic 108, 3) := by decide +kernel
theorem dX5_tellEvent_34 : decode cX5_tellEvent 34 = .ok (.invokestatic 111, 3) := by decide +kernel
theorem dX5_tellEvent_37 : decode cX5_tellEvent 37 = .ok (.invokevirtual 36, 3) := by decide +kernel
theorem dX5_tellEvent_40 : decode cX5_tellEvent 40 = .ok (.aload_n 0, 1) := by decide +kernel
theorem dX5_tellEvent_41 : decode cX5_tellEvent 41 = .ok (.iload_n 1, 1) := by decide +kernel
theorem dX5_tellEvent_42 : decode cX5_tellEvent 42 = .ok (.invokestatic 115, 3) := by decide +kernel
theorem dX5_tellEvent_45 : decode cX5_tellEvent 45 = .ok (.invokevirtual 52, 3) := by decide +kernel
theorem dX5_tellEvent_48 : decode cX5_tellEvent 48 = .ok (.goto 9, 3) := by decide +kernel
theorem dX5_tellEvent_51 : decode cX5_tellEvent 51 = .ok (.aload_n 0, 1) := by decide +kernel
theorem dX5_tellEvent_52 : decode cX5_tellEvent 52 = .ok (.ldc 118, 2) := by decide +kernel
theorem dX5_tellEvent_54 : decode cX5_tellEvent 54 = .ok (.invokevirtual 36, 3) := by decide +kernel
theorem dX5_tellEvent_57 : decode cX5_tellEvent 57 = .ok (.iload_n 1, 1) := by decide +kernel
theorem dX5_tellEvent_58 : decode cX5_tellEvent 58 = .ok (.invokestatic 120, 3) := by decide +kernel
theorem dX5_tellEvent_61 : decode cX5_tellEvent 61 = .ok (.ifCond .eq 9, 3) := by decide +kernel
theorem dX5_tellEvent_64 : decode cX5_tellEvent 64 = .ok (.aload_n 0, 1) := by decide +kernel
theorem dX5_tellEvent_65 : decode cX5_tellEvent 65 = .ok (.ldc 123, 2) := by decide +kernel
theorem dX5_tellEvent_67 : decode cX5_tellEvent 67 = .ok (.invokevirtual 36, 3) := by decide +kernel
theorem dX5_tellEvent_70 : decode cX5_tellEvent 70 = .ok (.aload_n 0, 1) := by decide +kernel
theorem dX5_tellEvent_71 : decode cX5_tellEvent 71 = .ok (.iload_n 1, 1) := by decide +kernel
theorem dX5_tellEvent_72 : decode cX5_tellEvent 72 = .ok (.invokestatic 125, 3) := by decide +kernel
theorem dX5_tellEvent_75 : decode cX5_tellEvent 75 = .ok (.invokestatic 128, 3) := by decide +kernel
theorem dX5_tellEvent_78 : decode cX5_tellEvent 78 = .ok (.invokevirtual 36, 3) := by decide +kernel
theorem dX5_tellEvent_81 : decode cX5_tellEvent 81 = .ok (.iload_n 1, 1) := by decide +kernel
theorem dX5_tellEvent_82 : decode cX5_tellEvent 82 = .ok (.invokestatic 131, 3) := by decide +kernel
theorem dX5_tellEvent_85 : decode cX5_tellEvent 85 = .ok (.ifCond .eq 9, 3) := by decide +kernel
theorem dX5_tellEvent_88 : decode cX5_tellEvent 88 = .ok (.aload_n 0, 1) := by decide +kernel
theorem dX5_tellEvent_89 : decode cX5_tellEvent 89 = .ok (.ldc 134, 2) := by decide +kernel
theorem dX5_tellEvent_91 : decode cX5_tellEvent 91 = .ok (.invokevirtual 36, 3) := by decide +kernel
theorem dX5_tellEvent_94 : decode cX5_tellEvent 94 = .ok (.return_, 1) := by decide +kernel
theorem dX5_tellNumbered_0 : decode cX5_tellNumbered 0 = .ok (.aload_n 0, 1) := by decide +kernel
theorem dX5_tellNumbered_1 : decode cX5_tellNumbered 1 = .ok (.aload_n 1, 1) := by decide +kernel
theorem dX5_tellNumbered_2 : decode cX5_tellNumbered 2 = .ok (.invokevirtual 36, 3) := by decide +kernel
theorem dX5_tellNumbered_5 : decode cX5_tellNumbered 5 = .ok (.aload_n 0, 1) := by decide +kernel
theorem dX5_tellNumbered_6 : decode cX5_tellNumbered 6 = .ok (.iload_n 2, 1) := by decide +kernel
theorem dX5_tellNumbered_7 : decode cX5_tellNumbered 7 = .ok (.invokevirtual 52, 3) := by decide +kernel
theorem dX5_tellNumbered_10 : decode cX5_tellNumbered 10 = .ok (.return_, 1) := by decide +kernel
theorem dX5_tellWord_0 : decode cX5_tellWord 0 = .ok (.aload_n 0, 1) := by decide +kernel
theorem dX5_tellWord_1 : decode cX5_tellWord 1 = .ok (.invokevirtual 95, 3) := by decide +kernel
theorem dX5_tellWord_4 : decode cX5_tellWord 4 = .ok (.iconst 0, 1) := by decide +kernel
theorem dX5_tellWord_5 : decode cX5_tellWord 5 = .ok (.istore_n 2, 1) := by decide +kernel
theorem dX5_tellWord_6 : decode cX5_tellWord 6 = .ok (.iload_n 2, 1) := by decide +kernel
theorem dX5_tellWord_7 : decode cX5_tellWord 7 = .ok (.aload_n 1, 1) := by decide +kernel
theorem dX5_tellWord_8 : decode cX5_tellWord 8 = .ok (.invokevirtual 136, 3) := by decide +kernel
theorem dX5_tellWord_11 : decode cX5_tellWord 11 = .ok (.if_icmp .ge 18, 3) := by decide +kernel
theorem dX5_tellWord_14 : decode cX5_tellWord 14 = .ok (.aload_n 0, 1) := by decide +kernel
theorem dX5_tellWord_15 : decode cX5_tellWord 15 = .ok (.aload_n 1, 1) := by decide +kernel
theorem dX5_tellWord_16 : decode cX5_tellWord 16 = .ok (.iload_n 2, 1) := by decide +kernel
theorem dX5_tellWord_17 : decode cX5_tellWord 17 = .ok (.invokevirtual 141, 3) := by decide +kernel
theorem dX5_tellWord_20 : decode cX5_tellWord 20 = .ok (.invokevirtual 105, 3) := by decide +kernel
theorem dX5_tellWord_23 : decode cX5_tellWord 23 = .ok (.iinc 2 1, 3) := by decide +kernel
theorem dX5_tellWord_26 : decode cX5_tellWord 26 = .ok (.goto (-20), 3) := by decide +kernel
theorem dX5_tellWord_29 : decode cX5_tellWord 29 = .ok (.return_, 1) := by decide +kernel
theorem dX5_tellNumber_0 : decode cX5_tellNumber 0 = .ok (.aload_n 0, 1) := by decide +kernel
theorem dX5_tellNumber_1 : decode cX5_tellNumber 1 = .ok (.invokevirtual 95, 3) := by decide +kernel
theorem dX5_tellNumber_4 : decode cX5_tellNumber 4 = .ok (.iload_n 1, 1) := by decide +kernel
theorem dX5_tellNumber_5 : decode cX5_tellNumber 5 = .ok (.bipush 10, 2) := by decide +kernel
theorem dX5_tellNumber_7 : decode cX5_tellNumber 7 = .ok (.if_icmp .lt 14, 3) := by decide +kernel
theorem dX5_tellNumber_10 : decode cX5_tellNumber 10 = .ok (.aload_n 0, 1) := by decide +kernel
theorem dX5_tellNumber_11 : decode cX5_tellNumber 11 = .ok (.bipush 48, 2) := by decide +kernel
theorem dX5_tellNumber_13 : decode cX5_tellNumber 13 = .ok (.iload_n 1, 1) := by decide +kernel
theorem dX5_tellNumber_14 : decode cX5_tellNumber 14 = .ok (.bipush 10, 2) := by decide +kernel
theorem dX5_tellNumber_16 : decode cX5_tellNumber 16 = .ok (.idiv, 1) := by decide +kernel
theorem dX5_tellNumber_17 : decode cX5_tellNumber 17 = .ok (.iadd, 1) := by decide +kernel
theorem dX5_tellNumber_18 : decode cX5_tellNumber 18 = .ok (.invokevirtual 105, 3) := by decide +kernel
theorem dX5_tellNumber_21 : decode cX5_tellNumber 21 = .ok (.aload_n 0, 1) := by decide +kernel
theorem dX5_tellNumber_22 : decode cX5_tellNumber 22 = .ok (.bipush 48, 2) := by decide +kernel
theorem dX5_tellNumber_24 : decode cX5_tellNumber 24 = .ok (.iload_n 1, 1) := by decide +kernel
theorem dX5_tellNumber_25 : decode cX5_tellNumber 25 = .ok (.bipush 10, 2) := by decide +kernel
theorem dX5_tellNumber_27 : decode cX5_tellNumber 27 = .ok (.irem, 1) := by decide +kernel
theorem dX5_tellNumber_28 : decode cX5_tellNumber 28 = .ok (.iadd, 1) := by decide +kernel
theorem dX5_tellNumber_29 : decode cX5_tellNumber 29 = .ok (.invokevirtual 105, 3) := by decide +kernel
theorem dX5_tellNumber_32 : decode cX5_tellNumber 32 = .ok (.return_, 1) := by decide +kernel
theorem dX5_beginWord_0 : decode cX5_beginWord 0 = .ok (.aload_n 0, 1) := by decide +kernel
theorem dX5_beginWord_1 : decode cX5_beginWord 1 = .ok (.getfield 17, 3) := by decide +kernel
theorem dX5_beginWord_4 : decode cX5_beginWord 4 = .ok (.ifCond .le 9, 3) := by decide +kernel
theorem dX5_beginWord_7 : decode cX5_beginWord 7 = .ok (.aload_n 0, 1) := by decide +kernel
theorem dX5_beginWord_8 : decode cX5_beginWord 8 = .ok (.bipush 32, 2) := by decide +kernel
theorem dX5_beginWord_10 : decode cX5_beginWord 10 = .ok (.invokevirtual 105, 3) := by decide +kernel
theorem dX5_beginWord_13 : decode cX5_beginWord 13 = .ok (.aload_n 0, 1) := by decide +kernel
theorem dX5_beginWord_14 : decode cX5_beginWord 14 = .ok (.dup, 1) := by decide +kernel
theorem dX5_beginWord_15 : decode cX5_beginWord 15 = .ok (.getfield 17, 3) := by decide +kernel
theorem dX5_beginWord_18 : decode cX5_beginWord 18 = .ok (.iconst 1, 1) := by decide +kernel
theorem dX5_beginWord_19 : decode cX5_beginWord 19 = .ok (.iadd, 1) := by decide +kernel
theorem dX5_beginWord_20 : decode cX5_beginWord 20 = .ok (.putfield 17, 3) := by decide +kernel
theorem dX5_beginWord_23 : decode cX5_beginWord 23 = .ok (.return_, 1) := by decide +kernel
theorem dX5_put_0 : decode cX5_put 0 = .ok (.aload_n 0, 1) := by decide +kernel
theorem dX5_put_1 : decode cX5_put 1 = .ok (.getfield 13, 3) := by decide +kernel
theorem dX5_put_4 : decode cX5_put 4 = .ok (.sipush 1702, 3) := by decide +kernel
theorem dX5_put_7 : decode cX5_put 7 = .ok (.if_icmp .ge 24, 3) := by decide +kernel
theorem dX5_put_10 : decode cX5_put 10 = .ok (.aload_n 0, 1) := by decide +kernel
theorem dX5_put_11 : decode cX5_put 11 = .ok (.getfield 9, 3) := by decide +kernel
theorem dX5_put_14 : decode cX5_put 14 = .ok (.aload_n 0, 1) := by decide +kernel
theorem dX5_put_15 : decode cX5_put 15 = .ok (.getfield 13, 3) := by decide +kernel
theorem dX5_put_18 : decode cX5_put 18 = .ok (.iload_n 1, 1) := by decide +kernel
theorem dX5_put_19 : decode cX5_put 19 = .ok (.i2b, 1) := by decide +kernel
theorem dX5_put_20 : decode cX5_put 20 = .ok (.bastore, 1) := by decide +kernel
theorem dX5_put_21 : decode cX5_put 21 = .ok (.aload_n 0, 1) := by decide +kernel
theorem dX5_put_22 : decode cX5_put 22 = .ok (.dup, 1) := by decide +kernel
theorem dX5_put_23 : decode cX5_put 23 = .ok (.getfield 13, 3) := by decide +kernel
theorem dX5_put_26 : decode cX5_put 26 = .ok (.iconst 1, 1) := by decide +kernel
theorem dX5_put_27 : decode cX5_put 27 = .ok (.iadd, 1) := by decide +kernel
theorem dX5_put_28 : decode cX5_put 28 = .ok (.putfield 13, 3) := by decide +kernel
theorem dX5_put_31 : decode cX5_put 31 = .ok (.return_, 1) := by decide +kernel
theorem dX6_init_0 : decode cX6_init 0 = .ok (.aload_n 0, 1) := by decide +kernel
theorem dX6_init_1 : decode cX6_init 1 = .ok (.invokespecial 3, 3) := by decide +kernel
theorem dX6_init_4 : decode cX6_init 4 = .ok (.aload_n 0, 1) := by decide +kernel
theorem dX6_init_5 : decode cX6_init 5 = .ok (.sipush 768, 3) := by decide +kernel
theorem dX6_init_8 : decode cX6_init 8 = .ok (.newarray .int, 2) := by decide +kernel
theorem dX6_init_10 : decode cX6_init 10 = .ok (.putfield 11, 3) := by decide +kernel
theorem dX6_init_13 : decode cX6_init 13 = .ok (.aload_n 0, 1) := by decide +kernel
theorem dX6_init_14 : decode cX6_init 14 = .ok (.sipush 768, 3) := by decide +kernel
theorem dX6_init_17 : decode cX6_init 17 = .ok (.newarray .int, 2) := by decide +kernel
theorem dX6_init_19 : decode cX6_init 19 = .ok (.putfield 15, 3) := by decide +kernel
theorem dX6_init_22 : decode cX6_init 22 = .ok (.aload_n 0, 1) := by decide +kernel
theorem dX6_init_23 : decode cX6_init 23 = .ok (.aload_n 1, 1) := by decide +kernel
theorem dX6_init_24 : decode cX6_init 24 = .ok (.putfield 18, 3) := by decide +kernel
theorem dX6_init_27 : decode cX6_init 27 = .ok (.return_, 1) := by decide +kernel
theorem dX6_slot_0 : decode cX6_slot 0 = .ok (.iload_n 0, 1) := by decide +kernel
theorem dX6_slot_1 : decode cX6_slot 1 = .ok (.ifCond .lt 32, 3) := by decide +kernel
theorem dX6_slot_4 : decode cX6_slot 4 = .ok (.iload_n 0, 1) := by decide +kernel
theorem dX6_slot_5 : decode cX6_slot 5 = .ok (.bipush 16, 2) := by decide +kernel
theorem dX6_slot_7 : decode cX6_slot 7 = .ok (.if_icmp .ge 26, 3) := by decide +kernel
theorem dX6_slot_10 : decode cX6_slot 10 = .ok (.iload_n 1, 1) := by decide +kernel
theorem dX6_slot_11 : decode cX6_slot 11 = .ok (.ifCond .lt 22, 3) := by decide +kernel
theorem dX6_slot_14 : decode cX6_slot 14 = .ok (.iload_n 1, 1) := by decide +kernel
theorem dX6_slot_15 : decode cX6_slot 15 = .ok (.iconst 2, 1) := by decide +kernel
theorem dX6_slot_16 : decode cX6_slot 16 = .ok (.if_icmp .ge 17, 3) := by decide +kernel
theorem dX6_slot_19 : decode cX6_slot 19 = .ok (.iload_n 2, 1) := by decide +kernel
theorem dX6_slot_20 : decode cX6_slot 20 = .ok (.ifCond .lt 13, 3) := by decide +kernel
theorem dX6_slot_23 : decode cX6_slot 23 = .ok (.iload_n 2, 1) := by decide +kernel
theorem dX6_slot_24 : decode cX6_slot 24 = .ok (.bipush 24, 2) := by decide +kernel
theorem dX6_slot_26 : decode cX6_slot 26 = .ok (.if_icmp .ge 7, 3) := by decide +kernel
theorem dX6_slot_29 : decode cX6_slot 29 = .ok (.iconst 1, 1) := by decide +kernel
theorem dX6_slot_30 : decode cX6_slot 30 = .ok (.goto 4, 3) := by decide +kernel
theorem dX6_slot_33 : decode cX6_slot 33 = .ok (.iconst 0, 1) := by decide +kernel
theorem dX6_slot_34 : decode cX6_slot 34 = .ok (.istore_n 3, 1) := by decide +kernel
theorem dX6_slot_35 : decode cX6_slot 35 = .ok (.iload_n 3, 1) := by decide +kernel
theorem dX6_slot_36 : decode cX6_slot 36 = .ok (.ifCond .eq 16, 3) := by decide +kernel
theorem dX6_slot_39 : decode cX6_slot 39 = .ok (.iload_n 0, 1) := by decide +kernel
theorem dX6_slot_40 : decode cX6_slot 40 = .ok (.iconst 2, 1) := by decide +kernel
theorem dX6_slot_41 : decode cX6_slot 41 = .ok (.imul, 1) := by decide +kernel
theorem dX6_slot_42 : decode cX6_slot 42 = .ok (.iload_n 1, 1) := by decide +kernel
theorem dX6_slot_43 : decode cX6_slot 43 = .ok (.iadd, 1) := by decide +kernel
theorem dX6_slot_44 : decode cX6_slot 44 = .ok (.bipush 24, 2) := by decide +kernel
theorem dX6_slot_46 : decode cX6_slot 46 = .ok (.imul, 1) := by decide +kernel
theorem dX6_slot_47 : decode cX6_slot 47 = .ok (.iload_n 2, 1) := by decide +kernel
theorem dX6_slot_48 : decode cX6_slot 48 = .ok (.iadd, 1) := by decide +kernel
theorem dX6_slot_49 : decode cX6_slot 49 = .ok (.goto 4, 3) := by decide +kernel
theorem dX6_slot_52 : decode cX6_slot 52 = .ok (.iconst (-1), 1) := by decide +kernel
theorem dX6_slot_53 : decode cX6_slot 53 = .ok (.ireturn, 1) := by decide +kernel
theorem dX6_shift_0 : decode cX6_shift 0 = .ok (.iload_n 1, 1) := by decide +kernel
theorem dX6_shift_1 : decode cX6_shift 1 = .ok (.iload_n 2, 1) := by decide +kernel
theorem dX6_shift_2 : decode cX6_shift 2 = .ok (.iload_n 3, 1) := by decide +kernel
theorem dX6_shift_3 : decode cX6_shift 3 = .ok (.invokestatic 22, 3) := by decide +kernel
theorem dX6_shift_6 : decode cX6_shift 6 = .ok (.istore 4, 2) := by decide +kernel
theorem dX6_shift_8 : decode cX6_shift 8 = .ok (.iload 4, 2) := by decide +kernel
theorem dX6_shift_10 : decode cX6_shift 10 = .ok (.ifCond .lt 13, 3) := by decide +kernel
theorem dX6_shift_13 : decode cX6_shift 13 = .ok (.aload_n 0, 1) := by decide +kernel
theorem dX6_shift_14 : decode cX6_shift 14 = .ok (.getfield 11, 3) := by decide +kernel
theorem dX6_shift_17 : decode cX6_shift 17 = .ok (.iload 4, 2) := by decide +kernel
theorem dX6_shift_19 : decode cX6_shift 19 = .ok (.iaload, 1) := by decide +kernel
theorem dX6_shift_20 : decode cX6_shift 20 = .ok (.goto 4, 3) := by decide +kernel
theorem dX6_shift_23 : decode cX6_shift 23 = .ok (.iconst 0, 1) := by decide +kernel
theorem dX6_shift_24 : decode cX6_shift 24 = .ok (.ireturn, 1) := by decide +kernel
theorem dX6_held_0 : decode cX6_held 0 = .ok (.iload_n 1, 1) := by decide +kernel
theorem dX6_held_1 : decode cX6_held 1 = .ok (.iload_n 2, 1) := by decide +kernel
theorem dX6_held_2 : decode cX6_held 2 = .ok (.iload_n 3, 1) := by decide +kernel
theorem dX6_held_3 : decode cX6_held 3 = .ok (.invokestatic 22, 3) := by decide +kernel
theorem dX6_held_6 : decode cX6_held 6 = .ok (.istore 4, 2) := by decide +kernel
theorem dX6_held_8 : decode cX6_held 8 = .ok (.iload 4, 2) := by decide +kernel
theorem dX6_held_10 : decode cX6_held 10 = .ok (.ifCond .lt 13, 3) := by decide +kernel
theorem dX6_held_13 : decode cX6_held 13 = .ok (.aload_n 0, 1) := by decide +kernel
theorem dX6_held_14 : decode cX6_held 14 = .ok (.getfield 15, 3) := by decide +kernel
theorem dX6_held_17 : decode cX6_held 17 = .ok (.iload 4, 2) := by decide +kernel
theorem dX6_held_19 : decode cX6_held 19 = .ok (.iaload, 1) := by decide +kernel
theorem dX6_held_20 : decode cX6_held 20 = .ok (.goto 4, 3) := by decide +kernel
theorem dX6_held_23 : decode cX6_held 23 = .ok (.iconst 0, 1) := by decide +kernel
theorem dX6_held_24 : decode cX6_held 24 = .ok (.ireturn, 1) := by decide +kernel
theorem dX6_isBrokenTie_0 : decode cX6_isBrokenTie 0 = .ok (.aload_n 0, 1) := by decide +kernel
theorem dX6_isBrokenTie_1 : decode cX6_isBrokenTie 1 = .ok (.getfield 18, 3) := by decide +kernel
theorem dX6_isBrokenTie_4 : decode cX6_isBrokenTie 4 = .ok (.iload_n 1, 1) := by decide +kernel
theorem dX6_isBrokenTie_5 : decode cX6_isBrokenTie 5 = .ok (.iload_n 2, 1) := by decide +kernel
theorem dX6_isBrokenTie_6 : decode cX6_isBrokenTie 6 = .ok (.iload_n 3, 1) := by decide +kernel
theorem dX6_isBrokenTie_7 : decode cX6_isBrokenTie 7 = .ok (.invokevirtual 26, 3) := by decide +kernel
theorem dX6_isBrokenTie_10 : decode cX6_isBrokenTie 10 = .ok (.istore 4, 2) := by decide +kernel
theorem dX6_isBrokenTie_12 : decode cX6_isBrokenTie 12 = .ok (.iload 4, 2) := by decide +kernel
theorem dX6_isBrokenTie_14 : decode cX6_isBrokenTie 14 = .ok (.invokestatic 29, 3) := by decide +kernel
theorem dX6_isBrokenTie_17 : decode cX6_isBrokenTie 17 = .ok (.ifCond .eq 22, 3) := by decide +kernel
theorem dX6_isBrokenTie_20 : decode cX6_isBrokenTie 20 = .ok (.aload_n 0, 1) := by decide +kernel
theorem dX6_isBrokenTie_21 : decode cX6_isBrokenTie 21 = .ok (.iload_n 1, 1) := by decide +kernel
theorem dX6_isBrokenTie_22 : decode cX6_isBrokenTie 22 = .ok (.iload_n 2, 1) := by decide +kernel
theorem dX6_isBrokenTie_23 : decode cX6_isBrokenTie 23 = .ok (.iload_n 3, 1) := by decide +kernel
theorem dX6_isBrokenTie_24 : decode cX6_isBrokenTie 24 = .ok (.invokevirtual 35, 3) := by decide +kernel
theorem dX6_isBrokenTie_27 : decode cX6_isBrokenTie 27 = .ok (.iload 4, 2) := by decide +kernel
theorem dX6_isBrokenTie_29 : decode cX6_isBrokenTie 29 = .ok (.invokestatic 38, 3) := by decide +kernel
theorem dX6_isBrokenTie_32 : decode cX6_isBrokenTie 32 = .ok (.if_icmp .ne 7, 3) := by decide +kernel
theorem dX6_isBrokenTie_35 : decode cX6_isBrokenTie 35 = .ok (.iconst 1, 1) := by decide +kernel
theorem dX6_isBrokenTie_36 : decode cX6_isBrokenTie 36 = .ok (.goto 4, 3) := by decide +kernel
theorem dX6_isBrokenTie_39 : decode cX6_isBrokenTie 39 = .ok (.iconst 0, 1) := by decide +kernel
theorem dX6_isBrokenTie_40 : decode cX6_isBrokenTie 40 = .ok (.ireturn, 1) := by decide +kernel
theorem dX6_sounding_0 : decode cX6_sounding 0 = .ok (.aload_n 0, 1) := by decide +kernel
theorem dX6_sounding_1 : decode cX6_sounding 1 = .ok (.getfield 18, 3) := by decide +kernel
theorem dX6_sounding_4 : decode cX6_sounding 4 = .ok (.iload_n 1, 1) := by decide +kernel
theorem dX6_sounding_5 : decode cX6_sounding 5 = .ok (.iload_n 2, 1) := by decide +kernel
theorem dX6_sounding_6 : decode cX6_sounding 6 = .ok (.iload_n 3, 1) := by decide +kernel
theorem dX6_sounding_7 : decode cX6_sounding 7 = .ok (.invokevirtual 26, 3) := by decide +kernel
theorem dX6_sounding_10 : decode cX6_sounding 10 = .ok (.istore 4, 2) := by decide +kernel
theorem dX6_sounding_12 : decode cX6_sounding 12 = .ok (.iload 4, 2) := by decide +kernel
theorem dX6_sounding_14 : decode cX6_sounding 14 = .ok (.invokestatic 42, 3) := by decide +kernel
theorem dX6_sounding_17 : decode cX6_sounding 17 = .ok (.istore 5, 2) := by decide +kernel
theorem dX6_sounding_19 : decode cX6_sounding 19 = .ok (.iload 5, 2) := by decide +kernel
theorem dX6_sounding_21 : decode cX6_sounding 21 = .ok (.ifCond .lt 21, 3) := by decide +kernel
theorem dX6_sounding_24 : decode cX6_sounding 24 = .ok (.iload 5, 2) := by decide +kernel
theorem dX6_sounding_26 : decode cX6_sounding 26 = .ok (.getstatic 45, 3) := by decide +kernel
theorem dX6_sounding_29 : decode cX6_sounding 29 = .ok (.arraylength, 1) := by decide +kernel
theorem dX6_sounding_30 : decode cX6_sounding 30 = .ok (.if_icmp .ge 12, 3) := by decide +kernel
theorem dX6_sounding_33 : decode cX6_sounding 33 = .ok (.getstatic 45, 3) := by decide +kernel
theorem dX6_sounding_36 : decode cX6_sounding 36 = .ok (.iload 5, 2) := by decide +kernel
theorem dX6_sounding_38 : decode cX6_sounding 38 = .ok (.iaload, 1) := by decide +kernel
theorem dX6_sounding_39 : decode cX6_sounding 39 = .ok (.goto 4, 3) := by decide +kernel
theorem dX6_sounding_42 : decode cX6_sounding 42 = .ok (.iconst 0, 1) := by decide +kernel
theorem dX6_sounding_43 : decode cX6_sounding 43 = .ok (.istore 6, 2) := by decide +kernel
theorem dX6_sounding_45 : decode cX6_sounding 45 = .ok (.bipush 12, 2) := by decide +kernel
theorem dX6_sounding_47 : decode cX6_sounding 47 = .ok (.iload 4, 2) := by decide +kernel
theorem dX6_sounding_49 : decode cX6_sounding 49 = .ok (.invokestatic 48, 3) := by decide +kernel
theorem dX6_sounding_52 : decode cX6_sounding 52 = .ok (.imul, 1) := by decide +kernel
theorem dX6_sounding_53 : decode cX6_sounding 53 = .ok (.iload 6, 2) := by decide +kernel
theorem dX6_sounding_55 : decode cX6_sounding 55 = .ok (.iadd, 1) := by decide +kernel
theorem dX6_sounding_56 : decode cX6_sounding 56 = .ok (.aload_n 0, 1) := by decide +kernel
theorem dX6_sounding_57 : decode cX6_sounding 57 = .ok (.iload_n 1, 1) := by decide +kernel
theorem dX6_sounding_58 : decode cX6_sounding 58 = .ok (.iload_n 2, 1) := by decide +kernel
theorem dX6_sounding_59 : decode cX6_sounding 59 = .ok (.iload_n 3, 1) := by decide +kernel
theorem dX6_sounding_60 : decode cX6_sounding 60 = .ok (.invokevirtual 51, 3) := by decide +kernel
theorem dX6_sounding_63 : decode cX6_sounding 63 = .ok (.iadd, 1) := by decide +kernel
theorem dX6_sounding_64 : decode cX6_sounding 64 = .ok (.ireturn, 1) := by decide +kernel
theorem dX6_findShifts_0 : decode cX6_findShifts 0 = .ok (.iconst 0, 1) := by decide +kernel
theorem dX6_findShifts_1 : decode cX6_findShifts 1 = .ok (.istore_n 1, 1) := by decide +kernel
theorem dX6_findShifts_2 : decode cX6_findShifts 2 = .ok (.iload_n 1, 1) := by decide +kernel
theorem dX6_findShifts_3 : decode cX6_findShifts 3 = .ok (.aload_n 0, 1) := by decide +kernel
theorem dX6_findShifts_4 : decode cX6_findShifts 4 = .ok (.getfield 18, 3) := by decide +kernel
theorem dX6_findShifts_7 : decode cX6_findShifts 7 = .ok (.invokevirtual 54, 3) := by decide +kernel
theorem dX6_findShifts_10 : decode cX6_findShifts 10 = .ok (.if_icmp .ge 93, 3) := by decide +kernel
theorem dX6_findShifts_13 : decode cX6_findShifts 13 = .ok (.aload_n 0, 1) := by decide +kernel
theorem dX6_findShifts_14 : decode cX6_findShifts 14 = .ok (.getfield 18, 3) := by decide +kernel
theorem dX6_findShifts_17 : decode cX6_findShifts 17 = .ok (.iload_n 1, 1) := by decide +kernel
theorem dX6_findShifts_18 : decode cX6_findShifts 18 = .ok (.iconst 0, 1) := by decide +kernel
theorem dX6_findShifts_19 : decode cX6_findShifts 19 = .ok (.invokevirtual 58, 3) := by decide +kernel
theorem dX6_findShifts_22 : decode cX6_findShifts 22 = .ok (.istore_n 2, 1) := by decide +kernel
theorem dX6_findShifts_23 : decode cX6_findShifts 23 = .ok (.iconst 0, 1) := by decide +kernel
theorem dX6_findShifts_24 : decode cX6_findShifts 24 = .ok (.istore_n 3, 1) := by decide +kernel
theorem dX6_findShifts_25 : decode cX6_findShifts 25 = .ok (.iload_n 3, 1) := by decide +kernel
theorem dX6_findShifts_26 : decode cX6_findShifts 26 = .ok (.iconst 2, 1) := by decide +kernel
theorem dX6_findShifts_27 : decode cX6_findShifts 27 = .ok (.if_icmp .ge 70, 3) := by decide +kernel
theorem dX6_findShifts_30 : decode cX6_findShifts 30 = .ok (.aload_n 0, 1) := by decide +kernel
theorem dX6_findShifts_31 : decode cX6_findShifts 31 = .ok (.iload_n 1, 1) := by decide +kernel
theorem dX6_findShifts_32 : decode cX6_findShifts 32 = .ok (.iload_n 3, 1) := by decide +kernel
theorem dX6_findShifts_33 : decode cX6_findShifts 33 = .ok (.iconst 0, 1) := by decide +kernel
theorem dX6_findShifts_34 : decode cX6_findShifts 34 = .ok (.invokevirtual 62, 3) := by decide +kernel
theorem dX6_findShifts_37 : decode cX6_findShifts 37 = .ok (.istore 4, 2) := by decide +kernel
theorem dX6_findShifts_39 : decode cX6_findShifts 39 = .ok (.iconst 0, 1) := by decide +kernel
theorem dX6_findShifts_40 : decode cX6_findShifts 40 = .ok (.istore 5, 2) := by decide +kernel
theorem dX6_findShifts_42 : decode cX6_findShifts 42 = .ok (.iload 5, 2) := by decide +kernel
theorem dX6_findShifts_44 : decode cX6_findShifts 44 = .ok (.aload_n 0, 1) := by decide +kernel
theorem dX6_findShifts_45 : decode cX6_findShifts 45 = .ok (.getfield 18, 3) := by decide +kernel
theorem dX6_findShifts_48 : decode cX6_findShifts 48 = .ok (.iload_n 1, 1) := by decide +kernel
theorem dX6_findShifts_49 : decode cX6_findShifts 49 = .ok (.iload_n 3, 1) := by decide +kernel
theorem dX6_findShifts_50 : decode cX6_findShifts 50 = .ok (.invokevirtual 65, 3) := by decide +kernel
theorem dX6_findShifts_53 : decode cX6_findShifts 53 = .ok (.if_icmp .ge 38, 3) := by decide +kernel
theorem dX6_findShifts_56 : decode cX6_findShifts 56 = .ok (.aload_n 0, 1) := by decide +kernel
theorem dX6_findShifts_57 : decode cX6_findShifts 57 = .ok (.iload_n 1, 1) := by decide +kernel
theorem dX6_findShifts_58 : decode cX6_findShifts 58 = .ok (.iload_n 3, 1) := by decide +kernel
theorem dX6_findShifts_59 : decode cX6_findShifts 59 = .ok (.iload 5, 2) := by decide +kernel
theorem dX6_findShifts_61 : decode cX6_findShifts 61 = .ok (.iload_n 2, 1) := by decide +kernel
theorem dX6_findShifts_62 : decode cX6_findShifts 62 = .ok (.iload 4, 2) := by decide +kernel
theorem dX6_findShifts_64 : decode cX6_findShifts 64 = .ok (.invokevirtual 68, 3) := by decide +kernel
theorem dX6_findShifts_67 : decode cX6_findShifts 67 = .ok (.istore 4, 2) := by decide +kernel
theorem dX6_findShifts_69 : decode cX6_findShifts 69 = .ok (.aload_n 0, 1) := by decide +kernel
theorem dX6_findShifts_70 : decode cX6_findShifts 70 = .ok (.getfield 11, 3) := by decide +kernel
theorem dX6_findShifts_73 : decode cX6_findShifts 73 = .ok (.iload_n 1, 1) := by decide +kernel
theorem dX6_findShifts_74 : decode cX6_findShifts 74 = .ok (.iload_n 3, 1) := by decide +kernel
theorem dX6_findShifts_75 : decode cX6_findShifts 75 = .ok (.iload 5, 2) := by decide +kernel
theorem dX6_findShifts_77 : decode cX6_findShifts 77 = .ok (.invokestatic 22, 3) := by decide +kernel
theorem dX6_findShifts_80 : decode cX6_findShifts 80 = .ok (.iload 4, 2) := by decide +kernel
theorem dX6_findShifts_82 : decode cX6_findShifts 82 = .ok (.invokestatic 72, 3) := by decide +kernel
theorem dX6_findShifts_85 : decode cX6_findShifts 85 = .ok (.iinc 5 1, 3) := by decide +kernel
theorem dX6_findShifts_88 : decode cX6_findShifts 88 = .ok (.goto (-46), 3) := by decide +kernel
theorem dX6_findShifts_91 : decode cX6_findShifts 91 = .ok (.iinc 3 1, 3) := by decide +kernel
theorem dX6_findShifts_94 : decode cX6_findShifts 94 = .ok (.goto (-69), 3) := by decide +kernel
theorem dX6_findShifts_97 : decode cX6_findShifts 97 = .ok (.iinc 1 1, 3) := by decide +kernel
theorem dX6_findShifts_100 : decode cX6_findShifts 100 = .ok (.goto (-98), 3) := by decide +kernel
theorem dX6_findShifts_103 : decode cX6_findShifts 103 = .ok (.return_, 1) := by decide +kernel
theorem dX6_findHeldTicks_0 : decode cX6_findHeldTicks 0 = .ok (.aload_n 0, 1) := by decide +kernel
theorem dX6_findHeldTicks_1 : decode cX6_findHeldTicks 1 = .ok (.getfield 18, 3) := by decide +kernel
theorem dX6_findHeldTicks_4 : decode cX6_findHeldTicks 4 = .ok (.invokevirtual 54, 3) := by decide +kernel
theorem dX6_findHeldTicks_7 : decode cX6_findHeldTicks 7 = .ok (.iconst 1, 1) := by decide +kernel
theorem dX6_findHeldTicks_8 : decode cX6_findHeldTicks 8 = .ok (.isub, 1) := by decide +kernel
theorem dX6_findHeldTicks_9 : decode cX6_findHeldTicks 9 = .ok (.istore_n 1, 1) := by decide +kernel
theorem dX6_findHeldTicks_10 : decode cX6_findHeldTicks 10 = .ok (.iload_n 1, 1) := by decide +kernel
theorem dX6_findHeldTicks_11 : decode cX6_findHeldTicks 11 = .ok (.ifCond .lt 111, 3) := by decide +kernel
theorem dX6_findHeldTicks_14 : decode cX6_findHeldTicks 14 = .ok (.iconst 0, 1) := by decide +kernel
theorem dX6_findHeldTicks_15 : decode cX6_findHeldTicks 15 = .ok (.istore_n 2, 1) := by decide +kernel
theorem dX6_findHeldTicks_16 : decode cX6_findHeldTicks 16 = .ok (.iload_n 2, 1) := by decide +kernel
theorem dX6_findHeldTicks_17 : decode cX6_findHeldTicks 17 = .ok (.iconst 2, 1) := by decide +kernel
theorem dX6_findHeldTicks_18 : decode cX6_findHeldTicks 18 = .ok (.if_icmp .ge 98, 3) := by decide +kernel
theorem dX6_findHeldTicks_21 : decode cX6_findHeldTicks 21 = .ok (.aload_n 0, 1) := by decide +kernel
theorem dX6_findHeldTicks_22 : decode cX6_findHeldTicks 22 = .ok (.iload_n 1, 1) := by decide +kernel
theorem dX6_findHeldTicks_23 : decode cX6_findHeldTicks 23 = .ok (.iconst 1, 1) := by decide +kernel
theorem dX6_findHeldTicks_24 : decode cX6_findHeldTicks 24 = .ok (.iadd, 1) := by decide +kernel
theorem dX6_findHeldTicks_25 : decode cX6_findHeldTicks 25 = .ok (.iload_n 2, 1) := by decide +kernel
theorem dX6_findHeldTicks_26 : decode cX6_findHeldTicks 26 = .ok (.iconst 0, 1) := by decide +kernel
theorem dX6_findHeldTicks_27 : decode cX6_findHeldTicks 27 = .ok (.invokevirtual 35, 3) := by decide +kernel
theorem dX6_findHeldTicks_30 : decode cX6_findHeldTicks 30 = .ok (.istore_n 3, 1) := by decide +kernel
theorem dX6_findHeldTicks_31 : decode cX6_findHeldTicks 31 = .ok (.aload_n 0, 1) := by decide +kernel
theorem dX6_findHeldTicks_32 : decode cX6_findHeldTicks 32 = .ok (.getfield 18, 3) := by decide +kernel
theorem dX6_findHeldTicks_35 : decode cX6_findHeldTicks 35 = .ok (.iload_n 1, 1) := by decide +kernel
theorem dX6_findHeldTicks_36 : decode cX6_findHeldTicks 36 = .ok (.iload_n 2, 1) := by decide +kernel
theorem dX6_findHeldTicks_37 : decode cX6_findHeldTicks 37 = .ok (.invokevirtual 65, 3) := by decide +kernel
theorem dX6_findHeldTicks_40 : decode cX6_findHeldTicks 40 = .ok (.iconst 1, 1) := by decide +kernel
theorem dX6_findHeldTicks_41 : decode cX6_findHeldTicks 41 = .ok (.isub, 1) := by decide +kernel
theorem dX6_findHeldTicks_42 : decode cX6_findHeldTicks 42 = .ok (.istore 4, 2) := by decide +kernel
theorem dX6_findHeldTicks_44 : decode cX6_findHeldTicks 44 = .ok (.iload 4, 2) := by decide +kernel
theorem dX6_findHeldTicks_46 : decode cX6_findHeldTicks 46 = .ok (.ifCond .lt 64, 3) := by decide +kernel
theorem dX6_findHeldTicks_49 : decode cX6_findHeldTicks 49 = .ok (.aload_n 0, 1) := by decide +kernel
theorem dX6_findHeldTicks_50 : decode cX6_findHeldTicks 50 = .ok (.getfield 18, 3) := by decide +kernel
theorem dX6_findHeldTicks_53 : decode cX6_findHeldTicks 53 = .ok (.iload_n 1, 1) := by decide +kernel
theorem dX6_findHeldTicks_54 : decode cX6_findHeldTicks 54 = .ok (.iload_n 2, 1) := by decide +kernel
theorem dX6_findHeldTicks_55 : decode cX6_findHeldTicks 55 = .ok (.iload 4, 2) := by decide +kernel
theorem dX6_findHeldTicks_57 : decode cX6_findHeldTicks 57 = .ok (.invokevirtual 26, 3) := by decide +kernel
theorem dX6_findHeldTicks_60 : decode cX6_findHeldTicks 60 = .ok (.invokestatic 38, 3) := by decide +kernel
theorem dX6_findHeldTicks_63 : decode cX6_findHeldTicks 63 = .ok (.istore 5, 2) := by decide +kernel
theorem dX6_findHeldTicks_65 : decode cX6_findHeldTicks 65 = .ok (.aload_n 0, 1) := by decide +kernel
theorem dX6_findHeldTicks_66 : decode cX6_findHeldTicks 66 = .ok (.getfield 18, 3) := by decide +kernel
theorem dX6_findHeldTicks_69 : decode cX6_findHeldTicks 69 = .ok (.iload_n 1, 1) := by decide +kernel
theorem dX6_findHeldTicks_70 : decode cX6_findHeldTicks 70 = .ok (.iload_n 2, 1) := by decide +kernel
theorem dX6_findHeldTicks_71 : decode cX6_findHeldTicks 71 = .ok (.iload 4, 2) := by decide +kernel
theorem dX6_findHeldTicks_73 : decode cX6_findHeldTicks 73 = .ok (.invokevirtual 76, 3) := by decide +kernel
theorem dX6_findHeldTicks_76 : decode cX6_findHeldTicks 76 = .ok (.ifCond .eq 10, 3) := by decide +kernel
theorem dX6_findHeldTicks_79 : decode cX6_findHeldTicks 79 = .ok (.iload 5, 2) := by decide +kernel
theorem dX6_findHeldTicks_81 : decode cX6_findHeldTicks 81 = .ok (.iload_n 3, 1) := by decide +kernel
theorem dX6_findHeldTicks_82 : decode cX6_findHeldTicks 82 = .ok (.iadd, 1) := by decide +kernel
theorem dX6_findHeldTicks_83 : decode cX6_findHeldTicks 83 = .ok (.goto 5, 3) := by decide +kernel
theorem dX6_findHeldTicks_86 : decode cX6_findHeldTicks 86 = .ok (.iload 5, 2) := by decide +kernel
theorem dX6_findHeldTicks_88 : decode cX6_findHeldTicks 88 = .ok (.istore_n 3, 1) := by decide +kernel
theorem dX6_findHeldTicks_89 : decode cX6_findHeldTicks 89 = .ok (.aload_n 0, 1) := by decide +kernel
theorem dX6_findHeldTicks_90 : decode cX6_findHeldTicks 90 = .ok (.getfield 15, 3) := by decide +kernel
theorem dX6_findHeldTicks_93 : decode cX6_findHeldTicks 93 = .ok (.iload_n 1, 1) := by decide +kernel
theorem dX6_findHeldTicks_94 : decode cX6_findHeldTicks 94 = .ok (.iload_n 2, 1) := by decide +kernel
theorem dX6_findHeldTicks_95 : decode cX6_findHeldTicks 95 = .ok (.iload 4, 2) := by decide +kernel
theorem dX6_findHeldTicks_97 : decode cX6_findHeldTicks 97 = .ok (.invokestatic 22, 3) := by decide +kernel
theorem dX6_findHeldTicks_100 : decode cX6_findHeldTicks 100 = .ok (.iload_n 3, 1) := by decide +kernel
theorem dX6_findHeldTicks_101 : decode cX6_findHeldTicks 101 = .ok (.invokestatic 72, 3) := by decide +kernel
theorem dX6_findHeldTicks_104 : decode cX6_findHeldTicks 104 = .ok (.iinc 4 (-1), 3) := by decide +kernel
theorem dX6_findHeldTicks_107 : decode cX6_findHeldTicks 107 = .ok (.goto (-63), 3) := by decide +kernel
theorem dX6_findHeldTicks_110 : decode cX6_findHeldTicks 110 = .ok (.iinc 2 1, 3) := by decide +kernel
theorem dX6_findHeldTicks_113 : decode cX6_findHeldTicks 113 = .ok (.goto (-97), 3) := by decide +kernel
theorem dX6_findHeldTicks_116 : decode cX6_findHeldTicks 116 = .ok (.iinc 1 (-1), 3) := by decide +kernel
theorem dX6_findHeldTicks_119 : decode cX6_findHeldTicks 119 = .ok (.goto (-109), 3) := by decide +kernel
theorem dX6_findHeldTicks_122 : decode cX6_findHeldTicks 122 = .ok (.return_, 1) := by decide +kernel
theorem dX6_put_0 : decode cX6_put 0 = .ok (.iload_n 1, 1) := by decide +kernel
theorem dX6_put_1 : decode cX6_put 1 = .ok (.ifCond .lt 13, 3) := by decide +kernel
theorem dX6_put_4 : decode cX6_put 4 = .ok (.iload_n 1, 1) := by decide +kernel
theorem dX6_put_5 : decode cX6_put 5 = .ok (.aload_n 0, 1) := by decide +kernel
theorem dX6_put_6 : decode cX6_put 6 = .ok (.arraylength, 1) := by decide +kernel
theorem dX6_put_7 : decode cX6_put 7 = .ok (.if_icmp .ge 7, 3) := by decide +kernel
theorem dX6_put_10 : decode cX6_put 10 = .ok (.aload_n 0, 1) := by decide +kernel
theorem dX6_put_11 : decode cX6_put 11 = .ok (.iload_n 1, 1) := by decide +kernel
theorem dX6_put_12 : decode cX6_put 12 = .ok (.iload_n 2, 1) := by decide +kernel
theorem dX6_put_13 : decode cX6_put 13 = .ok (.iastore, 1) := by decide +kernel
theorem dX6_put_14 : decode cX6_put 14 = .ok (.return_, 1) := by decide +kernel
theorem dX6_shiftBefore_0 : decode cX6_shiftBefore 0 = .ok (.iload_n 3, 1) := by decide +kernel
theorem dX6_shiftBefore_1 : decode cX6_shiftBefore 1 = .ok (.ifCond .le 15, 3) := by decide +kernel
theorem dX6_shiftBefore_4 : decode cX6_shiftBefore 4 = .ok (.aload_n 0, 1) := by decide +kernel
theorem dX6_shiftBefore_5 : decode cX6_shiftBefore 5 = .ok (.iload_n 1, 1) := by decide +kernel
theorem dX6_shiftBefore_6 : decode cX6_shiftBefore 6 = .ok (.iload_n 2, 1) := by decide +kernel
theorem dX6_shiftBefore_7 : decode cX6_shiftBefore 7 = .ok (.iload_n 3, 1) := by decide +kernel
theorem dX6_shiftBefore_8 : decode cX6_shiftBefore 8 = .ok (.iconst 1, 1) := by decide +kernel
theorem dX6_shiftBefore_9 : decode cX6_shiftBefore 9 = .ok (.isub, 1) := by decide +kernel
theorem dX6_shiftBefore_10 : decode cX6_shiftBefore 10 = .ok (.invokevirtual 51, 3) := by decide +kernel
theorem dX6_shiftBefore_13 : decode cX6_shiftBefore 13 = .ok (.goto 24, 3) := by decide +kernel
theorem dX6_shiftBefore_16 : decode cX6_shiftBefore 16 = .ok (.aload_n 0, 1) := by decide +kernel
theorem dX6_shiftBefore_17 : decode cX6_shiftBefore 17 = .ok (.iload_n 1, 1) := by decide +kernel
theorem dX6_shiftBefore_18 : decode cX6_shiftBefore 18 = .ok (.iconst 1, 1) := by decide +kernel
theorem dX6_shiftBefore_19 : decode cX6_shiftBefore 19 = .ok (.isub, 1) := by decide +kernel
theorem dX6_shiftBefore_20 : decode cX6_shiftBefore 20 = .ok (.iload_n 2, 1) := by decide +kernel
theorem dX6_shiftBefore_21 : decode cX6_shiftBefore 21 = .ok (.aload_n 0, 1) := by decide +kernel
theorem dX6_shiftBefore_22 : decode cX6_shiftBefore 22 = .ok (.getfield 18, 3) := by decide +kernel
theorem dX6_shiftBefore_25 : decode cX6_shiftBefore 25 = .ok (.iload_n 1, 1) := by decide +kernel
theorem dX6_shiftBefore_26 : decode cX6_shiftBefore 26 = .ok (.iconst 1, 1) := by decide +kernel
theorem dX6_shiftBefore_27 : decode cX6_shiftBefore 27 = .ok (.isub, 1) := by decide +kernel
theorem dX6_shiftBefore_28 : decode cX6_shiftBefore 28 = .ok (.iload_n 2, 1) := by decide +kernel
theorem dX6_shiftBefore_29 : decode cX6_shiftBefore 29 = .ok (.invokevirtual 65, 3) := by decide +kernel
theorem dX6_shiftBefore_32 : decode cX6_shiftBefore 32 = .ok (.iconst 1, 1) := by decide +kernel
theorem dX6_shiftBefore_33 : decode cX6_shiftBefore 33 = .ok (.isub, 1) := by decide +kernel
theorem dX6_shiftBefore_34 : decode cX6_shiftBefore 34 = .ok (.invokevirtual 51, 3) := by decide +kernel
theorem dX6_shiftBefore_37 : decode cX6_shiftBefore 37 = .ok (.ireturn, 1) := by decide +kernel
theorem dX6_shiftWith_0 : decode cX6_shiftWith 0 = .ok (.aload_n 0, 1) := by decide +kernel
theorem dX6_shiftWith_1 : decode cX6_shiftWith 1 = .ok (.getfield 18, 3) := by decide +kernel
theorem dX6_shiftWith_4 : decode cX6_shiftWith 4 = .ok (.iload_n 1, 1) := by decide +kernel
theorem dX6_shiftWith_5 : decode cX6_shiftWith 5 = .ok (.iload_n 2, 1) := by decide +kernel
theorem dX6_shiftWith_6 : decode cX6_shiftWith 6 = .ok (.iload_n 3, 1) := by decide +kernel
theorem dX6_shiftWith_7 : decode cX6_shiftWith 7 = .ok (.invokevirtual 26, 3) := by decide +kernel
theorem dX6_shiftWith_10 : decode cX6_shiftWith 10 = .ok (.invokestatic 80, 3) := by decide +kernel
theorem dX6_shiftWith_13 : decode cX6_shiftWith 13 = .ok (.istore 6, 2) := by decide +kernel
theorem dX6_shiftWith_15 : decode cX6_shiftWith 15 = .ok (.iload 6, 2) := by decide +kernel
theorem dX6_shiftWith_17 : decode cX6_shiftWith 17 = .ok (.ifCond .eq 11, 3) := by decide +kernel
theorem dX6_shiftWith_20 : decode cX6_shiftWith 20 = .ok (.iload 6, 2) := by decide +kernel
theorem dX6_shiftWith_22 : decode cX6_shiftWith 22 = .ok (.invokestatic 83, 3) := by decide +kernel
theorem dX6_shiftWith_25 : decode cX6_shiftWith 25 = .ok (.goto 14, 3) := by decide +kernel
theorem dX6_shiftWith_28 : decode cX6_shiftWith 28 = .ok (.aload_n 0, 1) := by decide +kernel
theorem dX6_shiftWith_29 : decode cX6_shiftWith 29 = .ok (.iload_n 1, 1) := by decide +kernel
theorem dX6_shiftWith_30 : decode cX6_shiftWith 30 = .ok (.iload_n 2, 1) := by decide +kernel
theorem dX6_shiftWith_31 : decode cX6_shiftWith 31 = .ok (.iload_n 3, 1) := by decide +kernel
theorem dX6_shiftWith_32 : decode cX6_shiftWith 32 = .ok (.iload 4, 2) := by decide +kernel
theorem dX6_shiftWith_34 : decode cX6_shiftWith 34 = .ok (.iload 5, 2) := by decide +kernel
theorem dX6_shiftWith_36 : decode cX6_shiftWith 36 = .ok (.invokevirtual 86, 3) := by decide +kernel
theorem dX6_shiftWith_39 : decode cX6_shiftWith 39 = .ok (.ireturn, 1) := by decide +kernel
theorem dX6_shiftWithoutSign_0 : decode cX6_shiftWithoutSign 0 = .ok (.aload_n 0, 1) := by decide +kernel
theorem dX6_shiftWithoutSign_1 : decode cX6_shiftWithoutSign 1 = .ok (.getfield 18, 3) := by decide +kernel
theorem dX6_shiftWithoutSign_4 : decode cX6_shiftWithoutSign 4 = .ok (.iload_n 1, 1) := by decide +kernel
theorem dX6_shiftWithoutSign_5 : decode cX6_shiftWithoutSign 5 = .ok (.iload_n 2, 1) := by decide +kernel
theorem dX6_shiftWithoutSign_6 : decode cX6_shiftWithoutSign 6 = .ok (.iload_n 3, 1) := by decide +kernel
theorem dX6_shiftWithoutSign_7 : decode cX6_shiftWithoutSign 7 = .ok (.invokevirtual 26, 3) := by decide +kernel
theorem dX6_shiftWithoutSign_10 : decode cX6_shiftWithoutSign 10 = .ok (.istore 6, 2) := by decide +kernel
theorem dX6_shiftWithoutSign_12 : decode cX6_shiftWithoutSign 12 = .ok (.aload_n 0, 1) := by decide +kernel
theorem dX6_shiftWithoutSign_13 : decode cX6_shiftWithoutSign 13 = .ok (.getfield 18, 3) := by decide +kernel
theorem dX6_shiftWithoutSign_16 : decode cX6_shiftWithoutSign 16 = .ok (.iload_n 1, 1) := by decide +kernel
theorem dX6_shiftWithoutSign_17 : decode cX6_shiftWithoutSign 17 = .ok (.iload_n 2, 1) := by decide +kernel
theorem dX6_shiftWithoutSign_18 : decode cX6_shiftWithoutSign 18 = .ok (.iload_n 3, 1) := by decide +kernel
theorem dX6_shiftWithoutSign_19 : decode cX6_shiftWithoutSign 19 = .ok (.invokevirtual 89, 3) := by decide +kernel
theorem dX6_shiftWithoutSign_22 : decode cX6_shiftWithoutSign 22 = .ok (.istore 7, 2) := by decide +kernel
theorem dX6_shiftWithoutSign_24 : decode cX6_shiftWithoutSign 24 = .ok (.iload 7, 2) := by decide +kernel
theorem dX6_shiftWithoutSign_26 : decode cX6_shiftWithoutSign 26 = .ok (.invokestatic 29, 3) := by decide +kernel
theorem dX6_shiftWithoutSign_29 : decode cX6_shiftWithoutSign 29 = .ok (.ifCond .eq 16, 3) := by decide +kernel
theorem dX6_shiftWithoutSign_32 : decode cX6_shiftWithoutSign 32 = .ok (.iload 7, 2) := by decide +kernel
theorem dX6_shiftWithoutSign_34 : decode cX6_shiftWithoutSign 34 = .ok (.iload 6, 2) := by decide +kernel
theorem dX6_shiftWithoutSign_36 : decode cX6_shiftWithoutSign 36 = .ok (.invokestatic 92, 3) := by decide +kernel
theorem dX6_shiftWithoutSign_39 : decode cX6_shiftWithoutSign 39 = .ok (.ifCond .eq 6, 3) := by decide +kernel
theorem dX6_shiftWithoutSign_42 : decode cX6_shiftWithoutSign 42 = .ok (.iload 5, 2) := by decide +kernel
theorem dX6_shiftWithoutSign_44 : decode cX6_shiftWithoutSign 44 = .ok (.ireturn, 1) := by decide +kernel
theorem dX6_shiftWithoutSign_45 : decode cX6_shiftWithoutSign 45 = .ok (.iload_n 3, 1) := by decide +kernel
theorem dX6_shiftWithoutSign_46 : decode cX6_shiftWithoutSign 46 = .ok (.iconst 1, 1) := by decide +kernel
theorem dX6_shiftWithoutSign_47 : decode cX6_shiftWithoutSign 47 = .ok (.isub, 1) := by decide +kernel
theorem dX6_shiftWithoutSign_48 : decode cX6_shiftWithoutSign 48 = .ok (.istore 8, 2) := by decide +kernel
theorem dX6_shiftWithoutSign_50 : decode cX6_shiftWithoutSign 50 = .ok (.iload 8, 2) := by decide +kernel
theorem dX6_shiftWithoutSign_52 : decode cX6_shiftWithoutSign 52 = .ok (.ifCond .lt 49, 3) := by decide +kernel
theorem dX6_shiftWithoutSign_55 : decode cX6_shiftWithoutSign 55 = .ok (.aload_n 0, 1) := by decide +kernel
theorem dX6_shiftWithoutSign_56 : decode cX6_shiftWithoutSign 56 = .ok (.getfield 18, 3) := by decide +kernel
theorem dX6_shiftWithoutSign_59 : decode cX6_shiftWithoutSign 59 = .ok (.iload_n 1, 1) := by decide +kernel
theorem dX6_shiftWithoutSign_60 : decode cX6_shiftWithoutSign 60 = .ok (.iload_n 2, 1) := by decide +kernel
theorem dX6_shiftWithoutSign_61 : decode cX6_shiftWithoutSign 61 = .ok (.iload 8, 2) := by decide +kernel
theorem dX6_shiftWithoutSign_63 : decode cX6_shiftWithoutSign 63 = .ok (.invokevirtual 26, 3) := by decide +kernel
theorem dX6_shiftWithoutSign_66 : decode cX6_shiftWithoutSign 66 = .ok (.istore 9, 2) := by decide +kernel
theorem dX6_shiftWithoutSign_68 : decode cX6_shiftWithoutSign 68 = .ok (.iload 9, 2) := by decide +kernel
theorem dX6_shiftWithoutSign_70 : decode cX6_shiftWithoutSign 70 = .ok (.iload 6, 2) := by decide +kernel
theorem dX6_shiftWithoutSign_72 : decode cX6_shiftWithoutSign 72 = .ok (.invokestatic 92, 3) := by decide +kernel
theorem dX6_shiftWithoutSign_75 : decode cX6_shiftWithoutSign 75 = .ok (.ifCond .eq 20, 3) := by decide +kernel
theorem dX6_shiftWithoutSign_78 : decode cX6_shiftWithoutSign 78 = .ok (.iload 9, 2) := by decide +kernel
theorem dX6_shiftWithoutSign_80 : decode cX6_shiftWithoutSign 80 = .ok (.invokestatic 80, 3) := by decide +kernel
theorem dX6_shiftWithoutSign_83 : decode cX6_shiftWithoutSign 83 = .ok (.ifCond .eq 12, 3) := by decide +kernel
theorem dX6_shiftWithoutSign_86 : decode cX6_shiftWithoutSign 86 = .ok (.iload 9, 2) := by decide +kernel
theorem dX6_shiftWithoutSign_88 : decode cX6_shiftWithoutSign 88 = .ok (.invokestatic 80, 3) := by decide +kernel
theorem dX6_shiftWithoutSign_91 : decode cX6_shiftWithoutSign 91 = .ok (.invokestatic 83, 3) := by decide +kernel
theorem dX6_shiftWithoutSign_94 : decode cX6_shiftWithoutSign 94 = .ok (.ireturn, 1) := by decide +kernel
theorem dX6_shiftWithoutSign_95 : decode cX6_shiftWithoutSign 95 = .ok (.iinc 8 (-1), 3) := by decide +kernel
theorem dX6_shiftWithoutSign_98 : decode cX6_shiftWithoutSign 98 = .ok (.goto (-48), 3) := by decide +kernel
theorem dX6_shiftWithoutSign_101 : decode cX6_shiftWithoutSign 101 = .ok (.iload 4, 2) := by decide +kernel
theorem dX6_shiftWithoutSign_103 : decode cX6_shiftWithoutSign 103 = .ok (.iload 6, 2) := by decide +kernel
theorem dX6_shiftWithoutSign_105 : decode cX6_shiftWithoutSign 105 = .ok (.invokestatic 42, 3) := by decide +kernel
theorem dX6_shiftWithoutSign_108 : decode cX6_shiftWithoutSign 108 = .ok (.invokestatic 96, 3) := by decide +kernel
theorem dX6_shiftWithoutSign_111 : decode cX6_shiftWithoutSign 111 = .ok (.ireturn, 1) := by decide +kernel
theorem dX6_signShift_0 : decode cX6_signShift 0 = .ok (.iload_n 0, 1) := by decide +kernel
theorem dX6_signShift_1 : decode cX6_signShift 1 = .ok (.iconst 1, 1) := by decide +kernel
theorem dX6_signShift_2 : decode cX6_signShift 2 = .ok (.if_icmp .ne 7, 3) := by decide +kernel
theorem dX6_signShift_5 : decode cX6_signShift 5 = .ok (.iconst 1, 1) := by decide +kernel
theorem dX6_signShift_6 : decode cX6_signShift 6 = .ok (.goto 13, 3) := by decide +kernel
theorem dX6_signShift_9 : decode cX6_signShift 9 = .ok (.iload_n 0, 1) := by decide +kernel
theorem dX6_signShift_10 : decode cX6_signShift 10 = .ok (.iconst 2, 1) := by decide +kernel
theorem dX6_signShift_11 : decode cX6_signShift 11 = .ok (.if_icmp .ne 7, 3) := by decide +kernel
theorem dX6_signShift_14 : decode cX6_signShift 14 = .ok (.iconst (-1), 1) := by decide +kernel
theorem dX6_signShift_15 : decode cX6_signShift 15 = .ok (.goto 4, 3) := by decide +kernel
theorem dX6_signShift_18 : decode cX6_signShift 18 = .ok (.iconst 0, 1) := by decide +kernel
theorem dX6_signShift_19 : decode cX6_signShift 19 = .ok (.ireturn, 1) := by decide +kernel
theorem dX6_keyShift_0 : decode cX6_keyShift 0 = .ok (.iconst 0, 1) := by decide +kernel
theorem dX6_keyShift_1 : decode cX6_keyShift 1 = .ok (.istore_n 2, 1) := by decide +kernel
theorem dX6_keyShift_2 : decode cX6_keyShift 2 = .ok (.iload_n 2, 1) := by decide +kernel
theorem dX6_keyShift_3 : decode cX6_keyShift 3 = .ok (.getstatic 99, 3) := by decide +kernel
theorem dX6_keyShift_6 : decode cX6_keyShift 6 = .ok (.arraylength, 1) := by decide +kernel
theorem dX6_keyShift_7 : decode cX6_keyShift 7 = .ok (.if_icmp .ge 25, 3) := by decide +kernel
theorem dX6_keyShift_10 : decode cX6_keyShift 10 = .ok (.iload_n 2, 1) := by decide +kernel
theorem dX6_keyShift_11 : decode cX6_keyShift 11 = .ok (.iload_n 0, 1) := by decide +kernel
theorem dX6_keyShift_12 : decode cX6_keyShift 12 = .ok (.if_icmp .ge 20, 3) := by decide +kernel
theorem dX6_keyShift_15 : decode cX6_keyShift 15 = .ok (.getstatic 99, 3) := by decide +kernel
theorem dX6_keyShift_18 : decode cX6_keyShift 18 = .ok (.iload_n 2, 1) := by decide +kernel
theorem dX6_keyShift_19 : decode cX6_keyShift 19 = .ok (.iaload, 1) := by decide +kernel
theorem dX6_keyShift_20 : decode cX6_keyShift 20 = .ok (.iload_n 1, 1) := by decide +kernel
theorem dX6_keyShift_21 : decode cX6_keyShift 21 = .ok (.if_icmp .ne 5, 3) := by decide +kernel
theorem dX6_keyShift_24 : decode cX6_keyShift 24 = .ok (.iconst 1, 1) := by decide +kernel
theorem dX6_keyShift_25 : decode cX6_keyShift 25 = .ok (.ireturn, 1) := by decide +kernel
theorem dX6_keyShift_26 : decode cX6_keyShift 26 = .ok (.iinc 2 1, 3) := by decide +kernel
theorem dX6_keyShift_29 : decode cX6_keyShift 29 = .ok (.goto (-27), 3) := by decide +kernel
theorem dX6_keyShift_32 : decode cX6_keyShift 32 = .ok (.iconst 0, 1) := by decide +kernel
theorem dX6_keyShift_33 : decode cX6_keyShift 33 = .ok (.istore_n 2, 1) := by decide +kernel
theorem dX6_keyShift_34 : decode cX6_keyShift 34 = .ok (.iload_n 2, 1) := by decide +kernel
theorem dX6_keyShift_35 : decode cX6_keyShift 35 = .ok (.getstatic 102, 3) := by decide +kernel
theorem dX6_keyShift_38 : decode cX6_keyShift 38 = .ok (.arraylength, 1) := by decide +kernel
theorem dX6_keyShift_39 : decode cX6_keyShift 39 = .ok (.if_icmp .ge 26, 3) := by decide +kernel
theorem dX6_keyShift_42 : decode cX6_keyShift 42 = .ok (.iload_n 2, 1) := by decide +kernel
theorem dX6_keyShift_43 : decode cX6_keyShift 43 = .ok (.iload_n 0, 1) := by decide +kernel
theorem dX6_keyShift_44 : decode cX6_keyShift 44 = .ok (.ineg, 1) := by decide +kernel
theorem dX6_keyShift_45 : decode cX6_keyShift 45 = .ok (.if_icmp .ge 20, 3) := by decide +kernel
theorem dX6_keyShift_48 : decode cX6_keyShift 48 = .ok (.getstatic 102, 3) := by decide +kernel
theorem dX6_keyShift_51 : decode cX6_keyShift 51 = .ok (.iload_n 2, 1) := by decide +kernel
theorem dX6_keyShift_52 : decode cX6_keyShift 52 = .ok (.iaload, 1) := by decide +kernel
theorem dX6_keyShift_53 : decode cX6_keyShift 53 = .ok (.iload_n 1, 1) := by decide +kernel
theorem dX6_keyShift_54 : decode cX6_keyShift 54 = .ok (.if_icmp .ne 5, 3) := by decide +kernel
theorem dX6_keyShift_57 : decode cX6_keyShift 57 = .ok (.iconst (-1), 1) := by decide +kernel
theorem dX6_keyShift_58 : decode cX6_keyShift 58 = .ok (.ireturn, 1) := by decide +kernel
theorem dX6_keyShift_59 : decode cX6_keyShift 59 = .ok (.iinc 2 1, 3) := by decide +kernel
theorem dX6_keyShift_62 : decode cX6_keyShift 62 = .ok (.goto (-28), 3) := by decide +kernel
theorem dX6_keyShift_65 : decode cX6_keyShift 65 = .ok (.iconst 0, 1) := by decide +kernel
theorem dX6_keyShift_66 : decode cX6_keyShift 66 = .ok (.ireturn, 1) := by decide +kernel
theorem dX6_changedWith_0 : decode cX6_changedWith 0 = .ok (.iconst 0, 1) := by decide +kernel
theorem dX6_changedWith_1 : decode cX6_changedWith 1 = .ok (.istore_n 3, 1) := by decide +kernel
theorem dX6_changedWith_2 : decode cX6_changedWith 2 = .ok (.iconst 0, 1) := by decide +kernel
theorem dX6_changedWith_3 : decode cX6_changedWith 3 = .ok (.istore 4, 2) := by decide +kernel
theorem dX6_changedWith_5 : decode cX6_changedWith 5 = .ok (.iload 4, 2) := by decide +kernel
theorem dX6_changedWith_7 : decode cX6_changedWith 7 = .ok (.iconst 2, 1) := by decide +kernel
theorem dX6_changedWith_8 : decode cX6_changedWith 8 = .ok (.if_icmp .ge 109, 3) := by decide +kernel
theorem dX6_changedWith_11 : decode cX6_changedWith 11 = .ok (.aload_n 0, 1) := by decide +kernel
theorem dX6_changedWith_12 : decode cX6_changedWith 12 = .ok (.iload_n 1, 1) := by decide +kernel
theorem dX6_changedWith_13 : decode cX6_changedWith 13 = .ok (.iload 4, 2) := by decide +kernel
theorem dX6_changedWith_15 : decode cX6_changedWith 15 = .ok (.iconst 0, 1) := by decide +kernel
theorem dX6_changedWith_16 : decode cX6_changedWith 16 = .ok (.invokevirtual 62, 3) := by decide +kernel
theorem dX6_changedWith_19 : decode cX6_changedWith 19 = .ok (.istore 5, 2) := by decide +kernel
theorem dX6_changedWith_21 : decode cX6_changedWith 21 = .ok (.iconst 0, 1) := by decide +kernel
theorem dX6_changedWith_22 : decode cX6_changedWith 22 = .ok (.istore 6, 2) := by decide +kernel
theorem dX6_changedWith_24 : decode cX6_changedWith 24 = .ok (.iload 6, 2) := by decide +kernel
theorem dX6_changedWith_26 : decode cX6_changedWith 26 = .ok (.aload_n 0, 1) := by decide +kernel
theorem dX6_changedWith_27 : decode cX6_changedWith 27 = .ok (.getfield 18, 3) := by decide +kernel
theorem dX6_changedWith_30 : decode cX6_changedWith 30 = .ok (.iload_n 1, 1) := by decide +kernel
theorem dX6_changedWith_31 : decode cX6_changedWith 31 = .ok (.iload 4, 2) := by decide +kernel
theorem dX6_changedWith_33 : decode cX6_changedWith 33 = .ok (.invokevirtual 65, 3) := by decide +kernel
theorem dX6_changedWith_36 : decode cX6_changedWith 36 = .ok (.if_icmp .ge 75, 3) := by decide +kernel
theorem dX6_changedWith_39 : decode cX6_changedWith 39 = .ok (.aload_n 0, 1) := by decide +kernel
theorem dX6_changedWith_40 : decode cX6_changedWith 40 = .ok (.iload_n 1, 1) := by decide +kernel
theorem dX6_changedWith_41 : decode cX6_changedWith 41 = .ok (.iload 4, 2) := by decide +kernel
theorem dX6_changedWith_43 : decode cX6_changedWith 43 = .ok (.iload 6, 2) := by decide +kernel
theorem dX6_changedWith_45 : decode cX6_changedWith 45 = .ok (.iload_n 2, 1) := by decide +kernel
theorem dX6_changedWith_46 : decode cX6_changedWith 46 = .ok (.iload 5, 2) := by decide +kernel
theorem dX6_changedWith_48 : decode cX6_changedWith 48 = .ok (.invokevirtual 68, 3) := by decide +kernel
theorem dX6_changedWith_51 : decode cX6_changedWith 51 = .ok (.istore 5, 2) := by decide +kernel
theorem dX6_changedWith_53 : decode cX6_changedWith 53 = .ok (.iload 5, 2) := by decide +kernel
theorem dX6_changedWith_55 : decode cX6_changedWith 55 = .ok (.aload_n 0, 1) := by decide +kernel
theorem dX6_changedWith_56 : decode cX6_changedWith 56 = .ok (.iload_n 1, 1) := by decide +kernel
theorem dX6_changedWith_57 : decode cX6_changedWith 57 = .ok (.iload 4, 2) := by decide +kernel
theorem dX6_changedWith_59 : decode cX6_changedWith 59 = .ok (.iload 6, 2) := by decide +kernel
theorem dX6_changedWith_61 : decode cX6_changedWith 61 = .ok (.invokevirtual 51, 3) := by decide +kernel
theorem dX6_changedWith_64 : decode cX6_changedWith 64 = .ok (.if_icmp .eq 7, 3) := by decide +kernel
theorem dX6_changedWith_67 : decode cX6_changedWith 67 = .ok (.iconst 1, 1) := by decide +kernel
theorem dX6_changedWith_68 : decode cX6_changedWith 68 = .ok (.goto 4, 3) := by decide +kernel
theorem dX6_changedWith_71 : decode cX6_changedWith 71 = .ok (.iconst 0, 1) := by decide +kernel
theorem dX6_changedWith_72 : decode cX6_changedWith 72 = .ok (.istore 7, 2) := by decide +kernel
theorem dX6_changedWith_74 : decode cX6_changedWith 74 = .ok (.iload_n 3, 1) := by decide +kernel
theorem dX6_changedWith_75 : decode cX6_changedWith 75 = .ok (.iload 7, 2) := by decide +kernel
theorem dX6_changedWith_77 : decode cX6_changedWith 77 = .ok (.ifCond .eq 25, 3) := by decide +kernel
theorem dX6_changedWith_80 : decode cX6_changedWith 80 = .ok (.aload_n 0, 1) := by decide +kernel
theorem dX6_changedWith_81 : decode cX6_changedWith 81 = .ok (.getfield 18, 3) := by decide +kernel
theorem dX6_changedWith_84 : decode cX6_changedWith 84 = .ok (.iload_n 1, 1) := by decide +kernel
theorem dX6_changedWith_85 : decode cX6_changedWith 85 = .ok (.iload 4, 2) := by decide +kernel
theorem dX6_changedWith_87 : decode cX6_changedWith 87 = .ok (.iload 6, 2) := by decide +kernel
theorem dX6_changedWith_89 : decode cX6_changedWith 89 = .ok (.invokevirtual 26, 3) := by decide +kernel
theorem dX6_changedWith_92 : decode cX6_changedWith 92 = .ok (.invokestatic 105, 3) := by decide +kernel
theorem dX6_changedWith_95 : decode cX6_changedWith 95 = .ok (.ifCond .eq 7, 3) := by decide +kernel
theorem dX6_changedWith_98 : decode cX6_changedWith 98 = .ok (.iconst 1, 1) := by decide +kernel
theorem dX6_changedWith_99 : decode cX6_changedWith 99 = .ok (.goto 4, 3) := by decide +kernel
theorem dX6_changedWith_102 : decode cX6_changedWith 102 = .ok (.iconst 0, 1) := by decide +kernel
theorem dX6_changedWith_103 : decode cX6_changedWith 103 = .ok (.iadd, 1) := by decide +kernel
theorem dX6_changedWith_104 : decode cX6_changedWith 104 = .ok (.istore_n 3, 1) := by decide +kernel
theorem dX6_changedWith_105 : decode cX6_changedWith 105 = .ok (.iinc 6 1, 3) := by decide +kernel
theorem dX6_changedWith_108 : decode cX6_changedWith 108 = .ok (.goto (-84), 3) := by decide +kernel
theorem dX6_changedWith_111 : decode cX6_changedWith 111 = .ok (.iinc 4 1, 3) := by decide +kernel
theorem dX6_changedWith_114 : decode cX6_changedWith 114 = .ok (.goto (-109), 3) := by decide +kernel
theorem dX6_changedWith_117 : decode cX6_changedWith 117 = .ok (.iload_n 3, 1) := by decide +kernel
theorem dX6_changedWith_118 : decode cX6_changedWith 118 = .ok (.ireturn, 1) := by decide +kernel
theorem dX6_signsWithoutEffect_0 : decode cX6_signsWithoutEffect 0 = .ok (.aload_n 0, 1) := by decide +kernel
theorem dX6_signsWithoutEffect_1 : decode cX6_signsWithoutEffect 1 = .ok (.getfield 18, 3) := by decide +kernel
theorem dX6_signsWithoutEffect_4 : decode cX6_signsWithoutEffect 4 = .ok (.iload_n 1, 1) := by decide +kernel
theorem dX6_signsWithoutEffect_5 : decode cX6_signsWithoutEffect 5 = .ok (.iconst 0, 1) := by decide +kernel
theorem dX6_signsWithoutEffect_6 : decode cX6_signsWithoutEffect 6 = .ok (.invokevirtual 58, 3) := by decide +kernel
theorem dX6_signsWithoutEffect_9 : decode cX6_signsWithoutEffect 9 = .ok (.istore_n 2, 1) := by decide +kernel
theorem dX6_signsWithoutEffect_10 : decode cX6_signsWithoutEffect 10 = .ok (.iconst 0, 1) := by decide +kernel
theorem dX6_signsWithoutEffect_11 : decode cX6_signsWithoutEffect 11 = .ok (.istore_n 3, 1) := by decide +kernel
theorem dX6_signsWithoutEffect_12 : decode cX6_signsWithoutEffect 12 = .ok (.iconst 0, 1) := by decide +kernel
theorem dX6_signsWithoutEffect_13 : decode cX6_signsWithoutEffect 13 = .ok (.istore 4, 2) := by decide +kernel
theorem dX6_signsWithoutEffect_15 : decode cX6_signsWithoutEffect 15 = .ok (.iload 4, 2) := by decide +kernel
theorem dX6_signsWithoutEffect_17 : decode cX6_signsWithoutEffect 17 = .ok (.iconst 2, 1) := by decide +kernel
theorem dX6_signsWithoutEffect_18 : decode cX6_signsWithoutEffect 18 = .ok (.if_icmp .ge 98, 3) := by decide +kernel
theorem dX6_signsWithoutEffect_21 : decode cX6_signsWithoutEffect 21 = .ok (.iconst 0, 1) := by decide +kernel
theorem dX6_signsWithoutEffect_22 : decode cX6_signsWithoutEffect 22 = .ok (.istore 5, 2) := by decide +kernel
theorem dX6_signsWithoutEffect_24 : decode cX6_signsWithoutEffect 24 = .ok (.iload 5, 2) := by decide +kernel
theorem dX6_signsWithoutEffect_26 : decode cX6_signsWithoutEffect 26 = .ok (.aload_n 0, 1) := by decide +kernel
theorem dX6_signsWithoutEffect_27 : decode cX6_signsWithoutEffect 27 = .ok (.getfield 18, 3) := by decide +kernel
theorem dX6_signsWithoutEffect_30 : decode cX6_signsWithoutEffect 30 = .ok (.iload_n 1, 1) := by decide +kernel
theorem dX6_signsWithoutEffect_31 : decode cX6_signsWithoutEffect 31 = .ok (.iload 4, 2) := by decide +kernel
theorem dX6_signsWithoutEffect_33 : decode cX6_signsWithoutEffect 33 = .ok (.invokevirtual 65, 3) := by decide +kernel
theorem dX6_signsWithoutEffect_36 : decode cX6_signsWithoutEffect 36 = .ok (.if_icmp .ge 74, 3) := by decide +kernel
theorem dX6_signsWithoutEffect_39 : decode cX6_signsWithoutEffect 39 = .ok (.aload_n 0, 1) := by decide +kernel
theorem dX6_signsWithoutEffect_40 : decode cX6_signsWithoutEffect 40 = .ok (.getfield 18, 3) := by decide +kernel
theorem dX6_signsWithoutEffect_43 : decode cX6_signsWithoutEffect 43 = .ok (.iload_n 1, 1) := by decide +kernel
theorem dX6_signsWithoutEffect_44 : decode cX6_signsWithoutEffect 44 = .ok (.iload 4, 2) := by decide +kernel
theorem dX6_signsWithoutEffect_46 : decode cX6_signsWithoutEffect 46 = .ok (.iload 5, 2) := by decide +kernel
theorem dX6_signsWithoutEffect_48 : decode cX6_signsWithoutEffect 48 = .ok (.invokevirtual 26, 3) := by decide +kernel
theorem dX6_signsWithoutEffect_51 : decode cX6_signsWithoutEffect 51 = .ok (.invokestatic 80, 3) := by decide +kernel
theorem dX6_signsWithoutEffect_54 : decode cX6_signsWithoutEffect 54 = .ok (.ifCond .eq 50, 3) := by decide +kernel
theorem dX6_signsWithoutEffect_57 : decode cX6_signsWithoutEffect 57 = .ok (.aload_n 0, 1) := by decide +kernel
theorem dX6_signsWithoutEffect_58 : decode cX6_signsWithoutEffect 58 = .ok (.iload_n 1, 1) := by decide +kernel
theorem dX6_signsWithoutEffect_59 : decode cX6_signsWithoutEffect 59 = .ok (.iload 4, 2) := by decide +kernel
theorem dX6_signsWithoutEffect_61 : decode cX6_signsWithoutEffect 61 = .ok (.iload 5, 2) := by decide +kernel
theorem dX6_signsWithoutEffect_63 : decode cX6_signsWithoutEffect 63 = .ok (.invokevirtual 62, 3) := by decide +kernel
theorem dX6_signsWithoutEffect_66 : decode cX6_signsWithoutEffect 66 = .ok (.istore 6, 2) := by decide +kernel
theorem dX6_signsWithoutEffect_68 : decode cX6_signsWithoutEffect 68 = .ok (.aload_n 0, 1) := by decide +kernel
theorem dX6_signsWithoutEffect_69 : decode cX6_signsWithoutEffect 69 = .ok (.iload_n 1, 1) := by decide +kernel
theorem dX6_signsWithoutEffect_70 : decode cX6_signsWithoutEffect 70 = .ok (.iload 4, 2) := by decide +kernel
theorem dX6_signsWithoutEffect_72 : decode cX6_signsWithoutEffect 72 = .ok (.iload 5, 2) := by decide +kernel
theorem dX6_signsWithoutEffect_74 : decode cX6_signsWithoutEffect 74 = .ok (.iload_n 2, 1) := by decide +kernel
theorem dX6_signsWithoutEffect_75 : decode cX6_signsWithoutEffect 75 = .ok (.iload 6, 2) := by decide +kernel
theorem dX6_signsWithoutEffect_77 : decode cX6_signsWithoutEffect 77 = .ok (.invokevirtual 86, 3) := by decide +kernel
theorem dX6_signsWithoutEffect_80 : decode cX6_signsWithoutEffect 80 = .ok (.istore 7, 2) := by decide +kernel
theorem dX6_signsWithoutEffect_82 : decode cX6_signsWithoutEffect 82 = .ok (.iload_n 3, 1) := by decide +kernel
theorem dX6_signsWithoutEffect_83 : decode cX6_signsWithoutEffect 83 = .ok (.iload 7, 2) := by decide +kernel
theorem dX6_signsWithoutEffect_85 : decode cX6_signsWithoutEffect 85 = .ok (.aload_n 0, 1) := by decide +kernel
theorem dX6_signsWithoutEffect_86 : decode cX6_signsWithoutEffect 86 = .ok (.iload_n 1, 1) := by decide +kernel
theorem dX6_signsWithoutEffect_87 : decode cX6_signsWithoutEffect 87 = .ok (.iload 4, 2) := by decide +kernel
theorem dX6_signsWithoutEffect_89 : decode cX6_signsWithoutEffect 89 = .ok (.iload 5, 2) := by decide +kernel
theorem dX6_signsWithoutEffect_91 : decode cX6_signsWithoutEffect 91 = .ok (.invokevirtual 51, 3) := by decide +kernel
theorem dX6_signsWithoutEffect_94 : decode cX6_signsWithoutEffect 94 = .ok (.if_icmp .ne 7, 3) := by decide +kernel
theorem dX6_signsWithoutEffect_97 : decode cX6_signsWithoutEffect 97 = .ok (.iconst 1, 1) := by decide +kernel
theorem dX6_signsWithoutEffect_98 : decode cX6_signsWithoutEffect 98 = .ok (.goto 4, 3) := by decide +kernel
theorem dX6_signsWithoutEffect_101 : decode cX6_signsWithoutEffect 101 = .ok (.iconst 0, 1) := by decide +kernel
theorem dX6_signsWithoutEffect_102 : decode cX6_signsWithoutEffect 102 = .ok (.iadd, 1) := by decide +kernel
theorem dX6_signsWithoutEffect_103 : decode cX6_signsWithoutEffect 103 = .ok (.istore_n 3, 1) := by decide +kernel
theorem dX6_signsWithoutEffect_104 : decode cX6_signsWithoutEffect 104 = .ok (.iinc 5 1, 3) := by decide +kernel
theorem dX6_signsWithoutEffect_107 : decode cX6_signsWithoutEffect 107 = .ok (.goto (-83), 3) := by decide +kernel
theorem dX6_signsWithoutEffect_110 : decode cX6_signsWithoutEffect 110 = .ok (.iinc 4 1, 3) := by decide +kernel
theorem dX6_signsWithoutEffect_113 : decode cX6_signsWithoutEffect 113 = .ok (.goto (-98), 3) := by decide +kernel
theorem dX6_signsWithoutEffect_116 : decode cX6_signsWithoutEffect 116 = .ok (.iload_n 3, 1) := by decide +kernel
theorem dX6_signsWithoutEffect_117 : decode cX6_signsWithoutEffect 117 = .ok (.ireturn, 1) := by decide +kernel
theorem dX6_crossedTicks_0 : decode cX6_crossedTicks 0 = .ok (.aload_n 0, 1) := by decide +kernel
theorem dX6_crossedTicks_1 : decode cX6_crossedTicks 1 = .ok (.getfield 18, 3) := by decide +kernel
theorem dX6_crossedTicks_4 : decode cX6_crossedTicks 4 = .ok (.iload_n 1, 1) := by decide +kernel
theorem dX6_crossedTicks_5 : decode cX6_crossedTicks 5 = .ok (.invokevirtual 108, 3) := by decide +kernel
theorem dX6_crossedTicks_8 : decode cX6_crossedTicks 8 = .ok (.istore_n 2, 1) := by decide +kernel
theorem dX6_crossedTicks_9 : decode cX6_crossedTicks 9 = .ok (.iconst 0, 1) := by decide +kernel
theorem dX6_crossedTicks_10 : decode cX6_crossedTicks 10 = .ok (.istore_n 3, 1) := by decide +kernel
theorem dX6_crossedTicks_11 : decode cX6_crossedTicks 11 = .ok (.iconst 0, 1) := by decide +kernel
theorem dX6_crossedTicks_12 : decode cX6_crossedTicks 12 = .ok (.istore 4, 2) := by decide +kernel
theorem dX6_crossedTicks_14 : decode cX6_crossedTicks 14 = .ok (.iconst 0, 1) := by decide +kernel
theorem dX6_crossedTicks_15 : decode cX6_crossedTicks 15 = .ok (.istore 5, 2) := by decide +kernel
theorem dX6_crossedTicks_17 : decode cX6_crossedTicks 17 = .ok (.iload 5, 2) := by decide +kernel
theorem dX6_crossedTicks_19 : decode cX6_crossedTicks 19 = .ok (.aload_n 0, 1) := by decide +kernel
theorem dX6_crossedTicks_20 : decode cX6_crossedTicks 20 = .ok (.getfield 18, 3) := by decide +kernel
theorem dX6_crossedTicks_23 : decode cX6_crossedTicks 23 = .ok (.iload_n 1, 1) := by decide +kernel
theorem dX6_crossedTicks_24 : decode cX6_crossedTicks 24 = .ok (.iconst 0, 1) := by decide +kernel
theorem dX6_crossedTicks_25 : decode cX6_crossedTicks 25 = .ok (.invokevirtual 65, 3) := by decide +kernel
theorem dX6_crossedTicks_28 : decode cX6_crossedTicks 28 = .ok (.if_icmp .ge 68, 3) := by decide +kernel
theorem dX6_crossedTicks_31 : decode cX6_crossedTicks 31 = .ok (.aload_n 0, 1) := by decide +kernel
theorem dX6_crossedTicks_32 : decode cX6_crossedTicks 32 = .ok (.getfield 18, 3) := by decide +kernel
theorem dX6_crossedTicks_35 : decode cX6_crossedTicks 35 = .ok (.iload_n 1, 1) := by decide +kernel
theorem dX6_crossedTicks_36 : decode cX6_crossedTicks 36 = .ok (.iconst 0, 1) := by decide +kernel
theorem dX6_crossedTicks_37 : decode cX6_crossedTicks 37 = .ok (.iload 5, 2) := by decide +kernel
theorem dX6_crossedTicks_39 : decode cX6_crossedTicks 39 = .ok (.invokevirtual 26, 3) := by decide +kernel
theorem dX6_crossedTicks_42 : decode cX6_crossedTicks 42 = .ok (.istore 6, 2) := by decide +kernel
theorem dX6_crossedTicks_44 : decode cX6_crossedTicks 44 = .ok (.iload 4, 2) := by decide +kernel
theorem dX6_crossedTicks_46 : decode cX6_crossedTicks 46 = .ok (.iload 6, 2) := by decide +kernel
theorem dX6_crossedTicks_48 : decode cX6_crossedTicks 48 = .ok (.invokestatic 38, 3) := by decide +kernel
theorem dX6_crossedTicks_51 : decode cX6_crossedTicks 51 = .ok (.iadd, 1) := by decide +kernel
theorem dX6_crossedTicks_52 : decode cX6_crossedTicks 52 = .ok (.istore 7, 2) := by decide +kernel
theorem dX6_crossedTicks_54 : decode cX6_crossedTicks 54 = .ok (.iload 6, 2) := by decide +kernel
theorem dX6_crossedTicks_56 : decode cX6_crossedTicks 56 = .ok (.invokestatic 105, 3) := by decide +kernel
theorem dX6_crossedTicks_59 : decode cX6_crossedTicks 59 = .ok (.ifCond .eq 27, 3) := by decide +kernel
theorem dX6_crossedTicks_62 : decode cX6_crossedTicks 62 = .ok (.iload_n 3, 1) := by decide +kernel
theorem dX6_crossedTicks_63 : decode cX6_crossedTicks 63 = .ok (.aload_n 0, 1) := by decide +kernel
theorem dX6_crossedTicks_64 : decode cX6_crossedTicks 64 = .ok (.iload_n 1, 1) := by decide +kernel
theorem dX6_crossedTicks_65 : decode cX6_crossedTicks 65 = .ok (.aload_n 0, 1) := by decide +kernel
theorem dX6_crossedTicks_66 : decode cX6_crossedTicks 66 = .ok (.iload_n 1, 1) := by decide +kernel
theorem dX6_crossedTicks_67 : decode cX6_crossedTicks 67 = .ok (.iconst 0, 1) := by decide +kernel
theorem dX6_crossedTicks_68 : decode cX6_crossedTicks 68 = .ok (.iload 5, 2) := by decide +kernel
theorem dX6_crossedTicks_70 : decode cX6_crossedTicks 70 = .ok (.invokevirtual 111, 3) := by decide +kernel
theorem dX6_crossedTicks_73 : decode cX6_crossedTicks 73 = .ok (.iload 4, 2) := by decide +kernel
theorem dX6_crossedTicks_75 : decode cX6_crossedTicks 75 = .ok (.iload 7, 2) := by decide +kernel
theorem dX6_crossedTicks_77 : decode cX6_crossedTicks 77 = .ok (.iload_n 2, 1) := by decide +kernel
theorem dX6_crossedTicks_78 : decode cX6_crossedTicks 78 = .ok (.invokestatic 114, 3) := by decide +kernel
theorem dX6_crossedTicks_81 : decode cX6_crossedTicks 81 = .ok (.invokevirtual 119, 3) := by decide +kernel
theorem dX6_crossedTicks_84 : decode cX6_crossedTicks 84 = .ok (.iadd, 1) := by decide +kernel
theorem dX6_crossedTicks_85 : decode cX6_crossedTicks 85 = .ok (.istore_n 3, 1) := by decide +kernel
theorem dX6_crossedTicks_86 : decode cX6_crossedTicks 86 = .ok (.iload 7, 2) := by decide +kernel
theorem dX6_crossedTicks_88 : decode cX6_crossedTicks 88 = .ok (.istore 4, 2) := by decide +kernel
theorem dX6_crossedTicks_90 : decode cX6_crossedTicks 90 = .ok (.iinc 5 1, 3) := by decide +kernel
theorem dX6_crossedTicks_93 : decode cX6_crossedTicks 93 = .ok (.goto (-76), 3) := by decide +kernel
theorem dX6_crossedTicks_96 : decode cX6_crossedTicks 96 = .ok (.iload_n 3, 1) := by decide +kernel
theorem dX6_crossedTicks_97 : decode cX6_crossedTicks 97 = .ok (.ireturn, 1) := by decide +kernel
theorem dX6_ticksAbove_0 : decode cX6_ticksAbove 0 = .ok (.iconst 0, 1) := by decide +kernel
theorem dX6_ticksAbove_1 : decode cX6_ticksAbove 1 = .ok (.istore 5, 2) := by decide +kernel
theorem dX6_ticksAbove_3 : decode cX6_ticksAbove 3 = .ok (.iconst 0, 1) := by decide +kernel
theorem dX6_ticksAbove_4 : decode cX6_ticksAbove 4 = .ok (.istore 6, 2) := by decide +kernel
theorem dX6_ticksAbove_6 : decode cX6_ticksAbove 6 = .ok (.iconst 0, 1) := by decide +kernel
theorem dX6_ticksAbove_7 : decode cX6_ticksAbove 7 = .ok (.istore 7, 2) := by decide +kernel
theorem dX6_ticksAbove_9 : decode cX6_ticksAbove 9 = .ok (.iload 7, 2) := by decide +kernel
theorem dX6_ticksAbove_11 : decode cX6_ticksAbove 11 = .ok (.aload_n 0, 1) := by decide +kernel
theorem dX6_ticksAbove_12 : decode cX6_ticksAbove 12 = .ok (.getfield 18, 3) := by decide +kernel
theorem dX6_ticksAbove_15 : decode cX6_ticksAbove 15 = .ok (.iload_n 1, 1) := by decide +kernel
theorem dX6_ticksAbove_16 : decode cX6_ticksAbove 16 = .ok (.iconst 1, 1) := by decide +kernel
theorem dX6_ticksAbove_17 : decode cX6_ticksAbove 17 = .ok (.invokevirtual 65, 3) := by decide +kernel
theorem dX6_ticksAbove_20 : decode cX6_ticksAbove 20 = .ok (.if_icmp .ge 79, 3) := by decide +kernel
theorem dX6_ticksAbove_23 : decode cX6_ticksAbove 23 = .ok (.aload_n 0, 1) := by decide +kernel
theorem dX6_ticksAbove_24 : decode cX6_ticksAbove 24 = .ok (.getfield 18, 3) := by decide +kernel
theorem dX6_ticksAbove_27 : decode cX6_ticksAbove 27 = .ok (.iload_n 1, 1) := by decide +kernel
theorem dX6_ticksAbove_28 : decode cX6_ticksAbove 28 = .ok (.iconst 1, 1) := by decide +kernel
theorem dX6_ticksAbove_29 : decode cX6_ticksAbove 29 = .ok (.iload 7, 2) := by decide +kernel
theorem dX6_ticksAbove_31 : decode cX6_ticksAbove 31 = .ok (.invokevirtual 26, 3) := by decide +kernel
theorem dX6_ticksAbove_34 : decode cX6_ticksAbove 34 = .ok (.istore 8, 2) := by decide +kernel
theorem dX6_ticksAbove_36 : decode cX6_ticksAbove 36 = .ok (.iload 6, 2) := by decide +kernel
theorem dX6_ticksAbove_38 : decode cX6_ticksAbove 38 = .ok (.iload 8, 2) := by decide +kernel
theorem dX6_ticksAbove_40 : decode cX6_ticksAbove 40 = .ok (.invokestatic 38, 3) := by decide +kernel
theorem dX6_ticksAbove_43 : decode cX6_ticksAbove 43 = .ok (.iadd, 1) := by decide +kernel
theorem dX6_ticksAbove_44 : decode cX6_ticksAbove 44 = .ok (.istore 9, 2) := by decide +kernel
theorem dX6_ticksAbove_46 : decode cX6_ticksAbove 46 = .ok (.iload 8, 2) := by decide +kernel
theorem dX6_ticksAbove_48 : decode cX6_ticksAbove 48 = .ok (.invokestatic 105, 3) := by decide +kernel
theorem dX6_ticksAbove_51 : decode cX6_ticksAbove 51 = .ok (.ifCond .eq 38, 3) := by decide +kernel
theorem dX6_ticksAbove_54 : decode cX6_ticksAbove 54 = .ok (.aload_n 0, 1) := by decide +kernel
theorem dX6_ticksAbove_55 : decode cX6_ticksAbove 55 = .ok (.iload_n 1, 1) := by decide +kernel
theorem dX6_ticksAbove_56 : decode cX6_ticksAbove 56 = .ok (.iconst 1, 1) := by decide +kernel
theorem dX6_ticksAbove_57 : decode cX6_ticksAbove 57 = .ok (.iload 7, 2) := by decide +kernel
theorem dX6_ticksAbove_59 : decode cX6_ticksAbove 59 = .ok (.invokevirtual 111, 3) := by decide +kernel
theorem dX6_ticksAbove_62 : decode cX6_ticksAbove 62 = .ok (.iload_n 2, 1) := by decide +kernel
theorem dX6_ticksAbove_63 : decode cX6_ticksAbove 63 = .ok (.if_icmp .le 26, 3) := by decide +kernel
theorem dX6_ticksAbove_66 : decode cX6_ticksAbove 66 = .ok (.iload 5, 2) := by decide +kernel
theorem dX6_ticksAbove_68 : decode cX6_ticksAbove 68 = .ok (.iload 9, 2) := by decide +kernel
theorem dX6_ticksAbove_70 : decode cX6_ticksAbove 70 = .ok (.iload 4, 2) := by decide +kernel
theorem dX6_ticksAbove_72 : decode cX6_ticksAbove 72 = .ok (.invokestatic 114, 3) := by decide +kernel
theorem dX6_ticksAbove_75 : decode cX6_ticksAbove 75 = .ok (.iload 6, 2) := by decide +kernel
theorem dX6_ticksAbove_77 : decode cX6_ticksAbove 77 = .ok (.iload_n 3, 1) := by decide +kernel
theorem dX6_ticksAbove_78 : decode cX6_ticksAbove 78 = .ok (.invokestatic 123, 3) := by decide +kernel
theorem dX6_ticksAbove_81 : decode cX6_ticksAbove 81 = .ok (.isub, 1) := by decide +kernel
theorem dX6_ticksAbove_82 : decode cX6_ticksAbove 82 = .ok (.iconst 0, 1) := by decide +kernel
theorem dX6_ticksAbove_83 : decode cX6_ticksAbove 83 = .ok (.invokestatic 123, 3) := by decide +kernel
theorem dX6_ticksAbove_86 : decode cX6_ticksAbove 86 = .ok (.iadd, 1) := by decide +kernel
theorem dX6_ticksAbove_87 : decode cX6_ticksAbove 87 = .ok (.istore 5, 2) := by decide +kernel
theorem dX6_ticksAbove_89 : decode cX6_ticksAbove 89 = .ok (.iload 9, 2) := by decide +kernel
theorem dX6_ticksAbove_91 : decode cX6_ticksAbove 91 = .ok (.istore 6, 2) := by decide +kernel
theorem dX6_ticksAbove_93 : decode cX6_ticksAbove 93 = .ok (.iinc 7 1, 3) := by decide +kernel
theorem dX6_ticksAbove_96 : decode cX6_ticksAbove 96 = .ok (.goto (-87), 3) := by decide +kernel
theorem dX6_ticksAbove_99 : decode cX6_ticksAbove 99 = .ok (.iload 5, 2) := by decide +kernel
theorem dX6_ticksAbove_101 : decode cX6_ticksAbove 101 = .ok (.ireturn, 1) := by decide +kernel
theorem dX7_init_0 : decode cX7_init 0 = .ok (.aload_n 0, 1) := by decide +kernel
theorem dX7_init_1 : decode cX7_init 1 = .ok (.invokespecial 1, 3) := by decide +kernel
theorem dX7_init_4 : decode cX7_init 4 = .ok (.aload_n 0, 1) := by decide +kernel
theorem dX7_init_5 : decode cX7_init 5 = .ok (.sipush 600, 3) := by decide +kernel
theorem dX7_init_8 : decode cX7_init 8 = .ok (.newarray .byte, 2) := by decide +kernel
theorem dX7_init_10 : decode cX7_init 10 = .ok (.putfield 9, 3) := by decide +kernel
theorem dX7_init_13 : decode cX7_init 13 = .ok (.return_, 1) := by decide +kernel
theorem dX7_length_0 : decode cX7_length 0 = .ok (.aload_n 0, 1) := by decide +kernel
theorem dX7_length_1 : decode cX7_length 1 = .ok (.getfield 13, 3) := by decide +kernel
theorem dX7_length_4 : decode cX7_length 4 = .ok (.ireturn, 1) := by decide +kernel
theorem dX7_at_0 : decode cX7_at 0 = .ok (.iload_n 1, 1) := by decide +kernel
theorem dX7_at_1 : decode cX7_at 1 = .ok (.ifCond .lt 27, 3) := by decide +kernel
theorem dX7_at_4 : decode cX7_at 4 = .ok (.iload_n 1, 1) := by decide +kernel
theorem dX7_at_5 : decode cX7_at 5 = .ok (.aload_n 0, 1) := by decide +kernel
theorem dX7_at_6 : decode cX7_at 6 = .ok (.getfield 13, 3) := by decide +kernel
theorem dX7_at_9 : decode cX7_at 9 = .ok (.if_icmp .ge 19, 3) := by decide +kernel
theorem dX7_at_12 : decode cX7_at 12 = .ok (.iload_n 1, 1) := by decide +kernel
theorem dX7_at_13 : decode cX7_at 13 = .ok (.sipush 600, 3) := by decide +kernel
theorem dX7_at_16 : decode cX7_at 16 = .ok (.if_icmp .ge 12, 3) := by decide +kernel
theorem dX7_at_19 : decode cX7_at 19 = .ok (.aload_n 0, 1) := by decide +kernel
theorem dX7_at_20 : decode cX7_at 20 = .ok (.getfield 9, 3) := by decide +kernel
theorem dX7_at_23 : decode cX7_at 23 = .ok (.iload_n 1, 1) := by decide +kernel
theorem dX7_at_24 : decode cX7_at 24 = .ok (.baload, 1) := by decide +kernel
theorem dX7_at_25 : decode cX7_at 25 = .ok (.goto 4, 3) := by decide +kernel
theorem dX7_at_28 : decode cX7_at 28 = .ok (.iconst 0, 1) := by decide +kernel
theorem dX7_at_29 : decode cX7_at 29 = .ok (.ireturn, 1) := by decide +kernel
theorem dX7_append_0 : decode cX7_append 0 = .ok (.aload_n 0, 1) := by decide +kernel
theorem dX7_append_1 : decode cX7_append 1 = .ok (.getfield 13, 3) := by decide +kernel
theorem dX7_append_4 : decode cX7_append 4 = .ok (.sipush 600, 3) := by decide +kernel
theorem dX7_append_7 : decode cX7_append 7 = .ok (.if_icmp .ge 24, 3) := by decide +kernel
theorem dX7_append_10 : decode cX7_append 10 = .ok (.aload_n 0, 1) := by decide +kernel
theorem dX7_append_11 : decode cX7_append 11 = .ok (.getfield 9, 3) := by decide +kernel
theorem dX7_append_14 : decode cX7_append 14 = .ok (.aload_n 0, 1) := by decide +kernel
theorem dX7_append_15 : decode cX7_append 15 = .ok (.getfield 13, 3) := by decide +kernel
theorem dX7_append_18 : decode cX7_append 18 = .ok (.iload_n 1, 1) := by decide +kernel
theorem dX7_append_19 : decode cX7_append 19 = .ok (.i2b, 1) := by decide +kernel
theorem dX7_append_20 : decode cX7_append 20 = .ok (.bastore, 1) := by decide +kernel
theorem dX7_append_21 : decode cX7_append 21 = .ok (.aload_n 0, 1) := by decide +kernel
theorem dX7_append_22 : decode cX7_append 22 = .ok (.dup, 1) := by decide +kernel
theorem dX7_append_23 : decode cX7_append 23 = .ok (.getfield 13, 3) := by decide +kernel
theorem dX7_append_26 : decode cX7_append 26 = .ok (.iconst 1, 1) := by decide +kernel
theorem dX7_append_27 : decode cX7_append 27 = .ok (.iadd, 1) := by decide +kernel
theorem dX7_append_28 : decode cX7_append 28 = .ok (.putfield 13, 3) := by decide +kernel
theorem dX7_append_31 : decode cX7_append 31 = .ok (.return_, 1) := by decide +kernel
theorem dX7_shorten_0 : decode cX7_shorten 0 = .ok (.aload_n 0, 1) := by decide +kernel
theorem dX7_shorten_1 : decode cX7_shorten 1 = .ok (.aload_n 0, 1) := by decide +kernel
theorem dX7_shorten_2 : decode cX7_shorten 2 = .ok (.getfield 13, 3) := by decide +kernel
theorem dX7_shorten_5 : decode cX7_shorten 5 = .ok (.iload_n 1, 1) := by decide +kernel
theorem dX7_shorten_6 : decode cX7_shorten 6 = .ok (.isub, 1) := by decide +kernel
theorem dX7_shorten_7 : decode cX7_shorten 7 = .ok (.iconst 0, 1) := by decide +kernel
theorem dX7_shorten_8 : decode cX7_shorten 8 = .ok (.invokestatic 17, 3) := by decide +kernel
theorem dX7_shorten_11 : decode cX7_shorten 11 = .ok (.putfield 13, 3) := by decide +kernel
theorem dX7_shorten_14 : decode cX7_shorten 14 = .ok (.return_, 1) := by decide +kernel
theorem dX8_ofSign_0 : decode cX8_ofSign 0 = .ok (.iload_n 0, 1) := by decide +kernel
theorem dX8_ofSign_1 : decode cX8_ofSign 1 = .ok (.lookupswitch 33 #[(1, 27), (2, 30)], 27) := by decide +kernel
theorem dX8_ofSign_28 : decode cX8_ofSign 28 = .ok (.ldc 9, 2) := by decide +kernel
theorem dX8_ofSign_30 : decode cX8_ofSign 30 = .ok (.areturn, 1) := by decide +kernel
theorem dX8_ofSign_31 : decode cX8_ofSign 31 = .ok (.ldc 11, 2) := by decide +kernel
theorem dX8_ofSign_33 : decode cX8_ofSign 33 = .ok (.areturn, 1) := by decide +kernel
theorem dX8_ofSign_34 : decode cX8_ofSign 34 = .ok (.ldc 13, 2) := by decide +kernel
theorem dX8_ofSign_36 : decode cX8_ofSign 36 = .ok (.areturn, 1) := by decide +kernel
theorem dX8_ofLength_0 : decode cX8_ofLength 0 = .ok (.iload_n 0, 1) := by decide +kernel
theorem dX8_ofLength_1 : decode cX8_ofLength 1 = .ok (.tableswitch 43 0 3 #[31, 34, 37, 40], 31) := by decide +kernel
theorem dX8_ofLength_32 : decode cX8_ofLength 32 = .ok (.ldc 15, 2) := by decide +kernel
theorem dX8_ofLength_34 : decode cX8_ofLength 34 = .ok (.areturn, 1) := by decide +kernel
theorem dX8_ofLength_35 : decode cX8_ofLength 35 = .ok (.ldc 17, 2) := by decide +kernel
theorem dX8_ofLength_37 : decode cX8_ofLength 37 = .ok (.areturn, 1) := by decide +kernel
theorem dX8_ofLength_38 : decode cX8_ofLength 38 = .ok (.ldc 19, 2) := by decide +kernel
theorem dX8_ofLength_40 : decode cX8_ofLength 40 = .ok (.areturn, 1) := by decide +kernel
theorem dX8_ofLength_41 : decode cX8_ofLength 41 = .ok (.ldc 21, 2) := by decide +kernel
theorem dX8_ofLength_43 : decode cX8_ofLength 43 = .ok (.areturn, 1) := by decide +kernel
theorem dX8_ofLength_44 : decode cX8_ofLength 44 = .ok (.ldc 23, 2) := by decide +kernel
theorem dX8_ofLength_46 : decode cX8_ofLength 46 = .ok (.areturn, 1) := by decide +kernel
theorem dX8_letterOf_0 : decode cX8_letterOf 0 = .ok (.iload_n 0, 1) := by decide +kernel
theorem dX8_letterOf_1 : decode cX8_letterOf 1 = .ok (.ifCond .lt 21, 3) := by decide +kernel
theorem dX8_letterOf_4 : decode cX8_letterOf 4 = .ok (.iload_n 0, 1) := by decide +kernel
theorem dX8_letterOf_5 : decode cX8_letterOf 5 = .ok (.ldc 25, 2) := by decide +kernel
theorem dX8_letterOf_7 : decode cX8_letterOf 7 = .ok (.invokevirtual 27, 3) := by decide +kernel
theorem dX8_letterOf_10 : decode cX8_letterOf 10 = .ok (.if_icmp .ge 12, 3) := by decide +kernel
theorem dX8_letterOf_13 : decode cX8_letterOf 13 = .ok (.ldc 25, 2) := by decide +kernel
theorem dX8_letterOf_15 : decode cX8_letterOf 15 = .ok (.iload_n 0, 1) := by decide +kernel
theorem dX8_letterOf_16 : decode cX8_letterOf 16 = .ok (.invokevirtual 33, 3) := by decide +kernel
theorem dX8_letterOf_19 : decode cX8_letterOf 19 = .ok (.goto 5, 3) := by decide +kernel
theorem dX8_letterOf_22 : decode cX8_letterOf 22 = .ok (.bipush 32, 2) := by decide +kernel
theorem dX8_letterOf_24 : decode cX8_letterOf 24 = .ok (.ireturn, 1) := by decide +kernel
theorem dX9_init_0 : decode cX9_init 0 = .ok (.aload_n 0, 1) := by decide +kernel
theorem dX9_init_1 : decode cX9_init 1 = .ok (.invokespecial 1, 3) := by decide +kernel
theorem dX9_init_4 : decode cX9_init 4 = .ok (.aload_n 0, 1) := by decide +kernel
theorem dX9_init_5 : decode cX9_init 5 = .ok (.new 7, 3) := by decide +kernel
theorem dX9_init_8 : decode cX9_init 8 = .ok (.dup, 1) := by decide +kernel
theorem dX9_init_9 : decode cX9_init 9 = .ok (.invokespecial 9, 3) := by decide +kernel
theorem dX9_init_12 : decode cX9_init 12 = .ok (.putfield 10, 3) := by decide +kernel
theorem dX9_init_15 : decode cX9_init 15 = .ok (.aload_n 0, 1) := by decide +kernel
theorem dX9_init_16 : decode cX9_init 16 = .ok (.new 16, 3) := by decide +kernel
theorem dX9_init_19 : decode cX9_init 19 = .ok (.dup, 1) := by decide +kernel
theorem dX9_init_20 : decode cX9_init 20 = .ok (.invokespecial 18, 3) := by decide +kernel
theorem dX9_init_23 : decode cX9_init 23 = .ok (.putfield 19, 3) := by decide +kernel
theorem dX9_init_26 : decode cX9_init 26 = .ok (.aload_n 0, 1) := by decide +kernel
theorem dX9_init_27 : decode cX9_init 27 = .ok (.new 23, 3) := by decide +kernel
theorem dX9_init_30 : decode cX9_init 30 = .ok (.dup, 1) := by decide +kernel
theorem dX9_init_31 : decode cX9_init 31 = .ok (.invokespecial 25, 3) := by decide +kernel
theorem dX9_init_34 : decode cX9_init 34 = .ok (.putfield 26, 3) := by decide +kernel
theorem dX9_init_37 : decode cX9_init 37 = .ok (.aload_n 0, 1) := by decide +kernel
theorem dX9_init_38 : decode cX9_init 38 = .ok (.new 30, 3) := by decide +kernel
theorem dX9_init_41 : decode cX9_init 41 = .ok (.dup, 1) := by decide +kernel
theorem dX9_init_42 : decode cX9_init 42 = .ok (.invokespecial 32, 3) := by decide +kernel
theorem dX9_init_45 : decode cX9_init 45 = .ok (.putfield 33, 3) := by decide +kernel
theorem dX9_init_48 : decode cX9_init 48 = .ok (.aload_n 0, 1) := by decide +kernel
theorem dX9_init_49 : decode cX9_init 49 = .ok (.new 37, 3) := by decide +kernel
theorem dX9_init_52 : decode cX9_init 52 = .ok (.dup, 1) := by decide +kernel
theorem dX9_init_53 : decode cX9_init 53 = .ok (.aload_n 0, 1) := by decide +kernel
theorem dX9_init_54 : decode cX9_init 54 = .ok (.getfield 26, 3) := by decide +kernel
theorem dX9_init_57 : decode cX9_init 57 = .ok (.invokespecial 39, 3) := by decide +kernel
theorem dX9_init_60 : decode cX9_init 60 = .ok (.putfield 42, 3) := by decide +kernel
theorem dX9_init_63 : decode cX9_init 63 = .ok (.aload_n 0, 1) := by decide +kernel
theorem dX9_init_64 : decode cX9_init 64 = .ok (.new 46, 3) := by decide +kernel
theorem dX9_init_67 : decode cX9_init 67 = .ok (.dup, 1) := by decide +kernel
theorem dX9_init_68 : decode cX9_init 68 = .ok (.aload_n 0, 1) := by decide +kernel
theorem dX9_init_69 : decode cX9_init 69 = .ok (.getfield 10, 3) := by decide +kernel
theorem dX9_init_72 : decode cX9_init 72 = .ok (.invokespecial 48, 3) := by decide +kernel
theorem dX9_init_75 : decode cX9_init 75 = .ok (.putfield 51, 3) := by decide +kernel
theorem dX9_init_78 : decode cX9_init 78 = .ok (.aload_n 0, 1) := by decide +kernel
theorem dX9_init_79 : decode cX9_init 79 = .ok (.new 55, 3) := by decide +kernel
theorem dX9_init_82 : decode cX9_init 82 = .ok (.dup, 1) := by decide +kernel
theorem dX9_init_83 : decode cX9_init 83 = .ok (.invokespecial 57, 3) := by decide +kernel
theorem dX9_init_86 : decode cX9_init 86 = .ok (.putfield 58, 3) := by decide +kernel
theorem dX9_init_89 : decode cX9_init 89 = .ok (.return_, 1) := by decide +kernel
theorem dX9_addMeasure_0 : decode cX9_addMeasure 0 = .ok (.aload_n 0, 1) := by decide +kernel
theorem dX9_addMeasure_1 : decode cX9_addMeasure 1 = .ok (.getfield 10, 3) := by decide +kernel
theorem dX9_addMeasure_4 : decode cX9_addMeasure 4 = .ok (.invokevirtual 62, 3) := by decide +kernel
theorem dX9_addMeasure_7 : decode cX9_addMeasure 7 = .ok (.ifCond .eq 13, 3) := by decide +kernel
theorem dX9_addMeasure_10 : decode cX9_addMeasure 10 = .ok (.new 66, 3) := by decide +kernel
theorem dX9_addMeasure_13 : decode cX9_addMeasure 13 = .ok (.dup, 1) := by decide +kernel
theorem dX9_addMeasure_14 : decode cX9_addMeasure 14 = .ok (.ldc 68, 2) := by decide +kernel
theorem dX9_addMeasure_16 : decode cX9_addMeasure 16 = .ok (.invokespecial 70, 3) := by decide +kernel
theorem dX9_addMeasure_19 : decode cX9_addMeasure 19 = .ok (.athrow, 1) := by decide +kernel
theorem dX9_addMeasure_20 : decode cX9_addMeasure 20 = .ok (.aload_n 0, 1) := by decide +kernel
theorem dX9_addMeasure_21 : decode cX9_addMeasure 21 = .ok (.getfield 19, 3) := by decide +kernel
theorem dX9_addMeasure_24 : decode cX9_addMeasure 24 = .ok (.aload_n 0, 1) := by decide +kernel
theorem dX9_addMeasure_25 : decode cX9_addMeasure 25 = .ok (.getfield 10, 3) := by decide +kernel
theorem dX9_addMeasure_28 : decode cX9_addMeasure 28 = .ok (.invokevirtual 73, 3) := by decide +kernel
theorem dX9_addMeasure_31 : decode cX9_addMeasure 31 = .ok (.aload_n 0, 1) := by decide +kernel
theorem dX9_addMeasure_32 : decode cX9_addMeasure 32 = .ok (.getfield 10, 3) := by decide +kernel
theorem dX9_addMeasure_35 : decode cX9_addMeasure 35 = .ok (.invokevirtual 76, 3) := by decide +kernel
theorem dX9_addMeasure_38 : decode cX9_addMeasure 38 = .ok (.aload_n 0, 1) := by decide +kernel
theorem dX9_addMeasure_39 : decode cX9_addMeasure 39 = .ok (.invokevirtual 79, 3) := by decide +kernel
theorem dX9_addMeasure_42 : decode cX9_addMeasure 42 = .ok (.aload_n 0, 1) := by decide +kernel
theorem dX9_addMeasure_43 : decode cX9_addMeasure 43 = .ok (.getfield 10, 3) := by decide +kernel
theorem dX9_addMeasure_46 : decode cX9_addMeasure 46 = .ok (.invokevirtual 82, 3) := by decide +kernel
theorem dX9_addMeasure_49 : decode cX9_addMeasure 49 = .ok (.iconst 1, 1) := by decide +kernel
theorem dX9_addMeasure_50 : decode cX9_addMeasure 50 = .ok (.isub, 1) := by decide +kernel
theorem dX9_addMeasure_51 : decode cX9_addMeasure 51 = .ok (.ireturn, 1) := by decide +kernel
theorem dX9_removeMeasure_0 : decode cX9_removeMeasure 0 = .ok (.aload_n 0, 1) := by decide +kernel
theorem dX9_removeMeasure_1 : decode cX9_removeMeasure 1 = .ok (.iload_n 1, 1) := by decide +kernel
theorem dX9_removeMeasure_2 : decode cX9_removeMeasure 2 = .ok (.invokevirtual 86, 3) := by decide +kernel
theorem dX9_removeMeasure_5 : decode cX9_removeMeasure 5 = .ok (.aload_n 0, 1) := by decide +kernel
theorem dX9_removeMeasure_6 : decode cX9_removeMeasure 6 = .ok (.getfield 19, 3) := by decide +kernel
theorem dX9_removeMeasure_9 : decode cX9_removeMeasure 9 = .ok (.aload_n 0, 1) := by decide +kernel
theorem dX9_removeMeasure_10 : decode cX9_removeMeasure 10 = .ok (.getfield 10, 3) := by decide +kernel
theorem dX9_removeMeasure_13 : decode cX9_removeMeasure 13 = .ok (.invokevirtual 73, 3) := by decide +kernel
theorem dX9_removeMeasure_16 : decode cX9_removeMeasure 16 = .ok (.aload_n 0, 1) := by decide +kernel
theorem dX9_removeMeasure_17 : decode cX9_removeMeasure 17 = .ok (.getfield 10, 3) := by decide +kernel
theorem dX9_removeMeasure_20 : decode cX9_removeMeasure 20 = .ok (.iload_n 1, 1) := by decide +kernel
theorem dX9_removeMeasure_21 : decode cX9_removeMeasure 21 = .ok (.invokevirtual 90, 3) := by decide +kernel
theorem dX9_removeMeasure_24 : decode cX9_removeMeasure 24 = .ok (.aload_n 0, 1) := by decide +kernel
theorem dX9_removeMeasure_25 : decode cX9_removeMeasure 25 = .ok (.invokevirtual 79, 3) := by decide +kernel
theorem dX9_removeMeasure_28 : decode cX9_removeMeasure 28 = .ok (.aload_n 0, 1) := by decide +kernel
theorem dX9_removeMeasure_29 : decode cX9_removeMeasure 29 = .ok (.getfield 10, 3) := by decide +kernel
theorem dX9_removeMeasure_32 : decode cX9_removeMeasure 32 = .ok (.invokevirtual 82, 3) := by decide +kernel
theorem dX9_removeMeasure_35 : decode cX9_removeMeasure 35 = .ok (.ireturn, 1) := by decide +kernel
theorem dX9_set_0 : decode cX9_set 0 = .ok (.aload_n 0, 1) := by decide +kernel
theorem dX9_set_1 : decode cX9_set 1 = .ok (.iload_n 1, 1) := by decide +kernel
theorem dX9_set_2 : decode cX9_set 2 = .ok (.invokevirtual 86, 3) := by decide +kernel
theorem dX9_set_5 : decode cX9_set 5 = .ok (.iload_n 2, 1) := by decide +kernel
theorem dX9_set_6 : decode cX9_set 6 = .ok (.iload_n 3, 1) := by decide +kernel
theorem dX9_set_7 : decode cX9_set 7 = .ok (.invokestatic 93, 3) := by decide +kernel
theorem dX9_set_10 : decode cX9_set 10 = .ok (.ifCond .ne 13, 3) := by decide +kernel
theorem dX9_set_13 : decode cX9_set 13 = .ok (.new 97, 3) := by decide +kernel
theorem dX9_set_16 : decode cX9_set 16 = .ok (.dup, 1) := by decide +kernel
theorem dX9_set_17 : decode cX9_set 17 = .ok (.ldc 99, 2) := by decide +kernel
theorem dX9_set_19 : decode cX9_set 19 = .ok (.invokespecial 101, 3) := by decide +kernel
theorem dX9_set_22 : decode cX9_set 22 = .ok (.athrow, 1) := by decide +kernel
theorem dX9_set_23 : decode cX9_set 23 = .ok (.aload_n 0, 1) := by decide +kernel
theorem dX9_set_24 : decode cX9_set 24 = .ok (.getfield 19, 3) := by decide +kernel
theorem dX9_set_27 : decode cX9_set 27 = .ok (.aload_n 0, 1) := by decide +kernel
theorem dX9_set_28 : decode cX9_set 28 = .ok (.getfield 10, 3) := by decide +kernel
theorem dX9_set_31 : decode cX9_set 31 = .ok (.invokevirtual 73, 3) := by decide +kernel
theorem dX9_set_34 : decode cX9_set 34 = .ok (.aload_n 0, 1) := by decide +kernel
theorem dX9_set_35 : decode cX9_set 35 = .ok (.getfield 10, 3) := by decide +kernel
theorem dX9_set_38 : decode cX9_set 38 = .ok (.iload_n 1, 1) := by decide +kernel
theorem dX9_set_39 : decode cX9_set 39 = .ok (.iload_n 2, 1) := by decide +kernel
theorem dX9_set_40 : decode cX9_set 40 = .ok (.invokevirtual 102, 3) := by decide +kernel
theorem dX9_set_43 : decode cX9_set 43 = .ok (.istore 4, 2) := by decide +kernel
theorem dX9_set_45 : decode cX9_set 45 = .ok (.aload_n 0, 1) := by decide +kernel
theorem dX9_set_46 : decode cX9_set 46 = .ok (.getfield 10, 3) := by decide +kernel
theorem dX9_set_49 : decode cX9_set 49 = .ok (.iload_n 1, 1) := by decide +kernel
theorem dX9_set_50 : decode cX9_set 50 = .ok (.iload_n 2, 1) := by decide +kernel
theorem dX9_set_51 : decode cX9_set 51 = .ok (.iload_n 3, 1) := by decide +kernel
theorem dX9_set_52 : decode cX9_set 52 = .ok (.invokevirtual 106, 3) := by decide +kernel
theorem dX9_set_55 : decode cX9_set 55 = .ok (.aload_n 0, 1) := by decide +kernel
theorem dX9_set_56 : decode cX9_set 56 = .ok (.invokevirtual 79, 3) := by decide +kernel
theorem dX9_set_59 : decode cX9_set 59 = .ok (.iload 4, 2) := by decide +kernel
theorem dX9_set_61 : decode cX9_set 61 = .ok (.ireturn, 1) := by decide +kernel
theorem dX9_addNote_0 : decode cX9_addNote 0 = .ok (.aload_n 0, 1) := by decide +kernel
theorem dX9_addNote_1 : decode cX9_addNote 1 = .ok (.iload_n 1, 1) := by decide +kernel
theorem dX9_addNote_2 : decode cX9_addNote 2 = .ok (.iload_n 2, 1) := by decide +kernel
theorem dX9_addNote_3 : decode cX9_addNote 3 = .ok (.invokevirtual 110, 3) := by decide +kernel
theorem dX9_addNote_6 : decode cX9_addNote 6 = .ok (.iload_n 3, 1) := by decide +kernel
theorem dX9_addNote_7 : decode cX9_addNote 7 = .ok (.iconst 0, 1) := by decide +kernel
theorem dX9_addNote_8 : decode cX9_addNote 8 = .ok (.bipush 62, 2) := by decide +kernel
theorem dX9_addNote_10 : decode cX9_addNote 10 = .ok (.invokestatic 116, 3) := by decide +kernel
theorem dX9_addNote_13 : decode cX9_addNote 13 = .ok (.iload 4, 2) := by decide +kernel
theorem dX9_addNote_15 : decode cX9_addNote 15 = .ok (.iconst 0, 1) := by decide +kernel
theorem dX9_addNote_16 : decode cX9_addNote 16 = .ok (.iconst 3, 1) := by decide +kernel
theorem dX9_addNote_17 : decode cX9_addNote 17 = .ok (.invokestatic 116, 3) := by decide +kernel
theorem dX9_addNote_20 : decode cX9_addNote 20 = .ok (.iload 5, 2) := by decide +kernel
theorem dX9_addNote_22 : decode cX9_addNote 22 = .ok (.iconst 0, 1) := by decide +kernel
theorem dX9_addNote_23 : decode cX9_addNote 23 = .ok (.bipush 9, 2) := by decide +kernel
theorem dX9_addNote_25 : decode cX9_addNote 25 = .ok (.invokestatic 116, 3) := by decide +kernel
theorem dX9_addNote_28 : decode cX9_addNote 28 = .ok (.aload_n 0, 1) := by decide +kernel
theorem dX9_addNote_29 : decode cX9_addNote 29 = .ok (.iload_n 1, 1) := by decide +kernel
theorem dX9_addNote_30 : decode cX9_addNote 30 = .ok (.iload_n 2, 1) := by decide +kernel
theorem dX9_addNote_31 : decode cX9_addNote 31 = .ok (.invokevirtual 119, 3) := by decide +kernel
theorem dX9_addNote_34 : decode cX9_addNote 34 = .ok (.aload_n 0, 1) := by decide +kernel
theorem dX9_addNote_35 : decode cX9_addNote 35 = .ok (.getfield 19, 3) := by decide +kernel
theorem dX9_addNote_38 : decode cX9_addNote 38 = .ok (.aload_n 0, 1) := by decide +kernel
theorem dX9_addNote_39 : decode cX9_addNote 39 = .ok (.getfield 10, 3) := by decide +kernel
theorem dX9_addNote_42 : decode cX9_addNote 42 = .ok (.invokevirtual 73, 3) := by decide +kernel
theorem dX9_addNote_45 : decode cX9_addNote 45 = .ok (.aload_n 0, 1) := by decide +kernel
theorem dX9_addNote_46 : decode cX9_addNote 46 = .ok (.getfield 10, 3) := by decide +kernel
theorem dX9_addNote_49 : decode cX9_addNote 49 = .ok (.iload_n 1, 1) := by decide +kernel
theorem dX9_addNote_50 : decode cX9_addNote 50 = .ok (.iload_n 2, 1) := by decide +kernel
theorem dX9_addNote_51 : decode cX9_addNote 51 = .ok (.iload_n 3, 1) := by decide +kernel
theorem dX9_addNote_52 : decode cX9_addNote 52 = .ok (.iload 4, 2) := by decide +kernel
theorem dX9_addNote_54 : decode cX9_addNote 54 = .ok (.iload 5, 2) := by decide +kernel
theorem dX9_addNote_56 : decode cX9_addNote 56 = .ok (.iload 6, 2) := by decide +kernel
theorem dX9_addNote_58 : decode cX9_addNote 58 = .ok (.invokestatic 122, 3) := by decide +kernel
theorem dX9_addNote_61 : decode cX9_addNote 61 = .ok (.invokevirtual 126, 3) := by decide +kernel
theorem dX9_addNote_64 : decode cX9_addNote 64 = .ok (.aload_n 0, 1) := by decide +kernel
theorem dX9_addNote_65 : decode cX9_addNote 65 = .ok (.invokevirtual 79, 3) := by decide +kernel
theorem dX9_addNote_68 : decode cX9_addNote 68 = .ok (.aload_n 0, 1) := by decide +kernel
theorem dX9_addNote_69 : decode cX9_addNote 69 = .ok (.getfield 10, 3) := by decide +kernel
theorem dX9_addNote_72 : decode cX9_addNote 72 = .ok (.iload_n 1, 1) := by decide +kernel
theorem dX9_addNote_73 : decode cX9_addNote 73 = .ok (.iload_n 2, 1) := by decide +kernel
theorem dX9_addNote_74 : decode cX9_addNote 74 = .ok (.invokevirtual 129, 3) := by decide +kernel
theorem dX9_addNote_77 : decode cX9_addNote 77 = .ok (.ireturn, 1) := by decide +kernel
theorem dX9_addRest_0 : decode cX9_addRest 0 = .ok (.aload_n 0, 1) := by decide +kernel
theorem dX9_addRest_1 : decode cX9_addRest 1 = .ok (.iload_n 1, 1) := by decide +kernel
theorem dX9_addRest_2 : decode cX9_addRest 2 = .ok (.iload_n 2, 1) := by decide +kernel
theorem dX9_addRest_3 : decode cX9_addRest 3 = .ok (.invokevirtual 110, 3) := by decide +kernel
theorem dX9_addRest_6 : decode cX9_addRest 6 = .ok (.iload_n 3, 1) := by decide +kernel
theorem dX9_addRest_7 : decode cX9_addRest 7 = .ok (.iconst 0, 1) := by decide +kernel
theorem dX9_addRest_8 : decode cX9_addRest 8 = .ok (.bipush 9, 2) := by decide +kernel
theorem dX9_addRest_10 : decode cX9_addRest 10 = .ok (.invokestatic 116, 3) := by decide +kernel
theorem dX9_addRest_13 : decode cX9_addRest 13 = .ok (.aload_n 0, 1) := by decide +kernel
theorem dX9_addRest_14 : decode cX9_addRest 14 = .ok (.iload_n 1, 1) := by decide +kernel
theorem dX9_addRest_15 : decode cX9_addRest 15 = .ok (.iload_n 2, 1) := by decide +kernel
theorem dX9_addRest_16 : decode cX9_addRest 16 = .ok (.invokevirtual 119, 3) := by decide +kernel
theorem dX9_addRest_19 : decode cX9_addRest 19 = .ok (.aload_n 0, 1) := by decide +kernel
theorem dX9_addRest_20 : decode cX9_addRest 20 = .ok (.getfield 19, 3) := by decide +kernel
theorem dX9_addRest_23 : decode cX9_addRest 23 = .ok (.aload_n 0, 1) := by decide +kernel
theorem dX9_addRest_24 : decode cX9_addRest 24 = .ok (.getfield 10, 3) := by decide +kernel
theorem dX9_addRest_27 : decode cX9_addRest 27 = .ok (.invokevirtual 73, 3) := by decide +kernel
theorem dX9_addRest_30 : decode cX9_addRest 30 = .ok (.aload_n 0, 1) := by decide +kernel
theorem dX9_addRest_31 : decode cX9_addRest 31 = .ok (.getfield 10, 3) := by decide +kernel
theorem dX9_addRest_34 : decode cX9_addRest 34 = .ok (.iload_n 1, 1) := by decide +kernel
theorem dX9_addRest_35 : decode cX9_addRest 35 = .ok (.iload_n 2, 1) := by decide +kernel
theorem dX9_addRest_36 : decode cX9_addRest 36 = .ok (.iload_n 3, 1) := by decide +kernel
theorem dX9_addRest_37 : decode cX9_addRest 37 = .ok (.invokestatic 132, 3) := by decide +kernel
theorem dX9_addRest_40 : decode cX9_addRest 40 = .ok (.invokevirtual 126, 3) := by decide +kernel
theorem dX9_addRest_43 : decode cX9_addRest 43 = .ok (.aload_n 0, 1) := by decide +kernel
theorem dX9_addRest_44 : decode cX9_addRest 44 = .ok (.invokevirtual 79, 3) := by decide +kernel
theorem dX9_addRest_47 : decode cX9_addRest 47 = .ok (.aload_n 0, 1) := by decide +kernel
theorem dX9_addRest_48 : decode cX9_addRest 48 = .ok (.getfield 10, 3) := by decide +kernel
theorem dX9_addRest_51 : decode cX9_addRest 51 = .ok (.iload_n 1, 1) := by decide +kernel
theorem dX9_addRest_52 : decode cX9_addRest 52 = .ok (.iload_n 2, 1) := by decide +kernel
theorem dX9_addRest_53 : decode cX9_addRest 53 = .ok (.invokevirtual 129, 3) := by decide +kernel
theorem dX9_addRest_56 : decode cX9_addRest 56 = .ok (.ireturn, 1) := by decide +kernel
theorem dX9_removeEvent_0 : decode cX9_removeEvent 0 = .ok (.aload_n 0, 1) := by decide +kernel
theorem dX9_removeEvent_1 : decode cX9_removeEvent 1 = .ok (.iload_n 1, 1) := by decide +kernel
theorem dX9_removeEvent_2 : decode cX9_removeEvent 2 = .ok (.iload_n 2, 1) := by decide +kernel
theorem dX9_removeEvent_3 : decode cX9_removeEvent 3 = .ok (.iload_n 3, 1) := by decide +kernel
theorem dX9_removeEvent_4 : decode cX9_removeEvent 4 = .ok (.invokevirtual 136, 3) := by decide +kernel
theorem dX9_removeEvent_7 : decode cX9_removeEvent 7 = .ok (.aload_n 0, 1) := by decide +kernel
theorem dX9_removeEvent_8 : decode cX9_removeEvent 8 = .ok (.getfield 19, 3) := by decide +kernel
theorem dX9_removeEvent_11 : decode cX9_removeEvent 11 = .ok (.aload_n 0, 1) := by decide +kernel
theorem dX9_removeEvent_12 : decode cX9_removeEvent 12 = .ok (.getfield 10, 3) := by decide +kernel
theorem dX9_removeEvent_15 : decode cX9_removeEvent 15 = .ok (.invokevirtual 73, 3) := by decide +kernel
theorem dX9_removeEvent_18 : decode cX9_removeEvent 18 = .ok (.aload_n 0, 1) := by decide +kernel
theorem dX9_removeEvent_19 : decode cX9_removeEvent 19 = .ok (.getfield 10, 3) := by decide +kernel
theorem dX9_removeEvent_22 : decode cX9_removeEvent 22 = .ok (.iload_n 1, 1) := by decide +kernel
theorem dX9_removeEvent_23 : decode cX9_removeEvent 23 = .ok (.iload_n 2, 1) := by decide +kernel
theorem dX9_removeEvent_24 : decode cX9_removeEvent 24 = .ok (.iload_n 3, 1) := by decide +kernel
theorem dX9_removeEvent_25 : decode cX9_removeEvent 25 = .ok (.invokevirtual 139, 3) := by decide +kernel
theorem dX9_removeEvent_28 : decode cX9_removeEvent 28 = .ok (.aload_n 0, 1) := by decide +kernel
theorem dX9_removeEvent_29 : decode cX9_removeEvent 29 = .ok (.invokevirtual 79, 3) := by decide +kernel
theorem dX9_removeEvent_32 : decode cX9_removeEvent 32 = .ok (.aload_n 0, 1) := by decide +kernel
theorem dX9_removeEvent_33 : decode cX9_removeEvent 33 = .ok (.getfield 10, 3) := by decide +kernel
theorem dX9_removeEvent_36 : decode cX9_removeEvent 36 = .ok (.iload_n 1, 1) := by decide +kernel
theorem dX9_removeEvent_37 : decode cX9_removeEvent 37 = .ok (.iload_n 2, 1) := by decide +kernel
theorem dX9_removeEvent_38 : decode cX9_removeEvent 38 = .ok (.invokevirtual 129, 3) := by decide +kernel
theorem dX9_removeEvent_41 : decode cX9_removeEvent 41 = .ok (.ireturn, 1) := by decide +kernel
theorem dX9_measure_0 : decode cX9_measure 0 = .ok (.aload_n 0, 1) := by decide +kernel
theorem dX9_measure_1 : decode cX9_measure 1 = .ok (.iload_n 1, 1) := by decide +kernel
theorem dX9_measure_2 : decode cX9_measure 2 = .ok (.invokevirtual 86, 3) := by decide +kernel
theorem dX9_measure_5 : decode cX9_measure 5 = .ok (.iload_n 2, 1) := by decide +kernel
theorem dX9_measure_6 : decode cX9_measure 6 = .ok (.iconst 0, 1) := by decide +kernel
theorem dX9_measure_7 : decode cX9_measure 7 = .ok (.bipush 11, 2) := by decide +kernel
theorem dX9_measure_9 : decode cX9_measure 9 = .ok (.invokestatic 116, 3) := by decide +kernel
theorem dX9_measure_12 : decode cX9_measure 12 = .ok (.iload_n 2, 1) := by decide +kernel
theorem dX9_measure_13 : decode cX9_measure 13 = .ok (.tableswitch 84 7 11 #[35, 44, 54, 64, 74], 35) := by decide +kernel
theorem dX9_measure_48 : decode cX9_measure 48 = .ok (.aload_n 0, 1) := by decide +kernel
theorem dX9_measure_49 : decode cX9_measure 49 = .ok (.getfield 10, 3) := by decide +kernel
theorem dX9_measure_52 : decode cX9_measure 52 = .ok (.iload_n 1, 1) := by decide +kernel
theorem dX9_measure_53 : decode cX9_measure 53 = .ok (.invokevirtual 142, 3) := by decide +kernel
theorem dX9_measure_56 : decode cX9_measure 56 = .ok (.ireturn, 1) := by decide +kernel
theorem dX9_measure_57 : decode cX9_measure 57 = .ok (.aload_n 0, 1) := by decide +kernel
theorem dX9_measure_58 : decode cX9_measure 58 = .ok (.getfield 10, 3) := by decide +kernel
theorem dX9_measure_61 : decode cX9_measure 61 = .ok (.iload_n 1, 1) := by decide +kernel
theorem dX9_measure_62 : decode cX9_measure 62 = .ok (.iconst 0, 1) := by decide +kernel
theorem dX9_measure_63 : decode cX9_measure 63 = .ok (.invokevirtual 129, 3) := by decide +kernel
theorem dX9_measure_66 : decode cX9_measure 66 = .ok (.ireturn, 1) := by decide +kernel
theorem dX9_measure_67 : decode cX9_measure 67 = .ok (.aload_n 0, 1) := by decide +kernel
theorem dX9_measure_68 : decode cX9_measure 68 = .ok (.getfield 10, 3) := by decide +kernel
theorem dX9_measure_71 : decode cX9_measure 71 = .ok (.iload_n 1, 1) := by decide +kernel
theorem dX9_measure_72 : decode cX9_measure 72 = .ok (.iconst 1, 1) := by decide +kernel
theorem dX9_measure_73 : decode cX9_measure 73 = .ok (.invokevirtual 129, 3) := by decide +kernel
theorem dX9_measure_76 : decode cX9_measure 76 = .ok (.ireturn, 1) := by decide +kernel
theorem dX9_measure_77 : decode cX9_measure 77 = .ok (.aload_n 0, 1) := by decide +kernel
theorem dX9_measure_78 : decode cX9_measure 78 = .ok (.getfield 10, 3) := by decide +kernel
theorem dX9_measure_81 : decode cX9_measure 81 = .ok (.iload_n 1, 1) := by decide +kernel
theorem dX9_measure_82 : decode cX9_measure 82 = .ok (.iconst 0, 1) := by decide +kernel
theorem dX9_measure_83 : decode cX9_measure 83 = .ok (.invokevirtual 145, 3) := by decide +kernel
theorem dX9_measure_86 : decode cX9_measure 86 = .ok (.ireturn, 1) := by decide +kernel
theorem dX9_measure_87 : decode cX9_measure 87 = .ok (.aload_n 0, 1) := by decide +kernel
theorem dX9_measure_88 : decode cX9_measure 88 = .ok (.getfield 10, 3) := by decide +kernel
theorem dX9_measure_91 : decode cX9_measure 91 = .ok (.iload_n 1, 1) := by decide +kernel
theorem dX9_measure_92 : decode cX9_measure 92 = .ok (.iconst 1, 1) := by decide +kernel
theorem dX9_measure_93 : decode cX9_measure 93 = .ok (.invokevirtual 145, 3) := by decide +kernel
theorem dX9_measure_96 : decode cX9_measure 96 = .ok (.ireturn, 1) := by decide +kernel
theorem dX9_measure_97 : decode cX9_measure 97 = .ok (.aload_n 0, 1) := by decide +kernel
theorem dX9_measure_98 : decode cX9_measure 98 = .ok (.getfield 10, 3) := by decide +kernel
theorem dX9_measure_101 : decode cX9_measure 101 = .ok (.iload_n 1, 1) := by decide +kernel
theorem dX9_measure_102 : decode cX9_measure 102 = .ok (.iload_n 2, 1) := by decide +kernel
theorem dX9_measure_103 : decode cX9_measure 103 = .ok (.invokevirtual 102, 3) := by decide +kernel
theorem dX9_measure_106 : decode cX9_measure 106 = .ok (.ireturn, 1) := by decide +kernel
theorem dX9_event_0 : decode cX9_event 0 = .ok (.aload_n 0, 1) := by decide +kernel
theorem dX9_event_1 : decode cX9_event 1 = .ok (.iload_n 1, 1) := by decide +kernel
theorem dX9_event_2 : decode cX9_event 2 = .ok (.iload_n 2, 1) := by decide +kernel
theorem dX9_event_3 : decode cX9_event 3 = .ok (.iload_n 3, 1) := by decide +kernel
theorem dX9_event_4 : decode cX9_event 4 = .ok (.invokevirtual 136, 3) := by decide +kernel
theorem dX9_event_7 : decode cX9_event 7 = .ok (.iload 4, 2) := by decide +kernel
theorem dX9_event_9 : decode cX9_event 9 = .ok (.iconst 0, 1) := by decide +kernel
theorem dX9_event_10 : decode cX9_event 10 = .ok (.bipush 9, 2) := by decide +kernel
theorem dX9_event_12 : decode cX9_event 12 = .ok (.invokestatic 116, 3) := by decide +kernel
theorem dX9_event_15 : decode cX9_event 15 = .ok (.aload_n 0, 1) := by decide +kernel
theorem dX9_event_16 : decode cX9_event 16 = .ok (.getfield 10, 3) := by decide +kernel
theorem dX9_event_19 : decode cX9_event 19 = .ok (.iload_n 1, 1) := by decide +kernel
theorem dX9_event_20 : decode cX9_event 20 = .ok (.iload_n 2, 1) := by decide +kernel
theorem dX9_event_21 : decode cX9_event 21 = .ok (.iload_n 3, 1) := by decide +kernel
theorem dX9_event_22 : decode cX9_event 22 = .ok (.invokevirtual 148, 3) := by decide +kernel
theorem dX9_event_25 : decode cX9_event 25 = .ok (.istore 5, 2) := by decide +kernel
theorem dX9_event_27 : decode cX9_event 27 = .ok (.iload 4, 2) := by decide +kernel
theorem dX9_event_29 : decode cX9_event 29 = .ok (.tableswitch 54 2 5 #[31, 54, 37, 43], 31) := by decide +kernel
theorem dX9_event_60 : decode cX9_event 60 = .ok (.iload 5, 2) := by decide +kernel
theorem dX9_event_62 : decode cX9_event 62 = .ok (.invokestatic 152, 3) := by decide +kernel
theorem dX9_event_65 : decode cX9_event 65 = .ok (.ireturn, 1) := by decide +kernel
theorem dX9_event_66 : decode cX9_event 66 = .ok (.iload 5, 2) := by decide +kernel
theorem dX9_event_68 : decode cX9_event 68 = .ok (.invokestatic 155, 3) := by decide +kernel
theorem dX9_event_71 : decode cX9_event 71 = .ok (.ireturn, 1) := by decide +kernel
theorem dX9_event_72 : decode cX9_event 72 = .ok (.aload_n 0, 1) := by decide +kernel
theorem dX9_event_73 : decode cX9_event 73 = .ok (.getfield 10, 3) := by decide +kernel
theorem dX9_event_76 : decode cX9_event 76 = .ok (.iload_n 1, 1) := by decide +kernel
theorem dX9_event_77 : decode cX9_event 77 = .ok (.iload_n 2, 1) := by decide +kernel
theorem dX9_event_78 : decode cX9_event 78 = .ok (.iload_n 3, 1) := by decide +kernel
theorem dX9_event_79 : decode cX9_event 79 = .ok (.invokevirtual 158, 3) := by decide +kernel
theorem dX9_event_82 : decode cX9_event 82 = .ok (.ireturn, 1) := by decide +kernel
theorem dX9_event_83 : decode cX9_event 83 = .ok (.iload 5, 2) := by decide +kernel
theorem dX9_event_85 : decode cX9_event 85 = .ok (.invokestatic 161, 3) := by decide +kernel
theorem dX9_event_88 : decode cX9_event 88 = .ok (.ifCond .eq 15, 3) := by decide +kernel
theorem dX9_event_91 : decode cX9_event 91 = .ok (.aload_n 0, 1) := by decide +kernel
theorem dX9_event_92 : decode cX9_event 92 = .ok (.iload_n 1, 1) := by decide +kernel
theorem dX9_event_93 : decode cX9_event 93 = .ok (.iload_n 2, 1) := by decide +kernel
theorem dX9_event_94 : decode cX9_event 94 = .ok (.iload_n 3, 1) := by decide +kernel
theorem dX9_event_95 : decode cX9_event 95 = .ok (.iload 4, 2) := by decide +kernel
theorem dX9_event_97 : decode cX9_event 97 = .ok (.invokevirtual 165, 3) := by decide +kernel
theorem dX9_event_100 : decode cX9_event 100 = .ok (.goto 6, 3) := by decide +kernel
theorem dX9_event_103 : decode cX9_event 103 = .ok (.sipush (-1000), 3) := by decide +kernel
theorem dX9_event_106 : decode cX9_event 106 = .ok (.ireturn, 1) := by decide +kernel
theorem dX9_eventAt_0 : decode cX9_eventAt 0 = .ok (.aload_n 0, 1) := by decide +kernel
theorem dX9_eventAt_1 : decode cX9_eventAt 1 = .ok (.iload_n 1, 1) := by decide +kernel
theorem dX9_eventAt_2 : decode cX9_eventAt 2 = .ok (.iload_n 2, 1) := by decide +kernel
theorem dX9_eventAt_3 : decode cX9_eventAt 3 = .ok (.invokevirtual 110, 3) := by decide +kernel
theorem dX9_eventAt_6 : decode cX9_eventAt 6 = .ok (.iload_n 3, 1) := by decide +kernel
theorem dX9_eventAt_7 : decode cX9_eventAt 7 = .ok (.invokestatic 169, 3) := by decide +kernel
theorem dX9_eventAt_10 : decode cX9_eventAt 10 = .ok (.iconst 0, 1) := by decide +kernel
theorem dX9_eventAt_11 : decode cX9_eventAt 11 = .ok (.istore 4, 2) := by decide +kernel
theorem dX9_eventAt_13 : decode cX9_eventAt 13 = .ok (.iconst 0, 1) := by decide +kernel
theorem dX9_eventAt_14 : decode cX9_eventAt 14 = .ok (.istore 5, 2) := by decide +kernel
theorem dX9_eventAt_16 : decode cX9_eventAt 16 = .ok (.iload 5, 2) := by decide +kernel
theorem dX9_eventAt_18 : decode cX9_eventAt 18 = .ok (.aload_n 0, 1) := by decide +kernel
theorem dX9_eventAt_19 : decode cX9_eventAt 19 = .ok (.getfield 10, 3) := by decide +kernel
theorem dX9_eventAt_22 : decode cX9_eventAt 22 = .ok (.iload_n 1, 1) := by decide +kernel
theorem dX9_eventAt_23 : decode cX9_eventAt 23 = .ok (.iload_n 2, 1) := by decide +kernel
theorem dX9_eventAt_24 : decode cX9_eventAt 24 = .ok (.invokevirtual 129, 3) := by decide +kernel
theorem dX9_eventAt_27 : decode cX9_eventAt 27 = .ok (.if_icmp .ge 37, 3) := by decide +kernel
theorem dX9_eventAt_30 : decode cX9_eventAt 30 = .ok (.iload 4, 2) := by decide +kernel
theorem dX9_eventAt_32 : decode cX9_eventAt 32 = .ok (.aload_n 0, 1) := by decide +kernel
theorem dX9_eventAt_33 : decode cX9_eventAt 33 = .ok (.getfield 10, 3) := by decide +kernel
theorem dX9_eventAt_36 : decode cX9_eventAt 36 = .ok (.iload_n 1, 1) := by decide +kernel
theorem dX9_eventAt_37 : decode cX9_eventAt 37 = .ok (.iload_n 2, 1) := by decide +kernel
theorem dX9_eventAt_38 : decode cX9_eventAt 38 = .ok (.iload 5, 2) := by decide +kernel
theorem dX9_eventAt_40 : decode cX9_eventAt 40 = .ok (.invokevirtual 148, 3) := by decide +kernel
theorem dX9_eventAt_43 : decode cX9_eventAt 43 = .ok (.invokestatic 155, 3) := by decide +kernel
theorem dX9_eventAt_46 : decode cX9_eventAt 46 = .ok (.iadd, 1) := by decide +kernel
theorem dX9_eventAt_47 : decode cX9_eventAt 47 = .ok (.istore 4, 2) := by decide +kernel
theorem dX9_eventAt_49 : decode cX9_eventAt 49 = .ok (.iload_n 3, 1) := by decide +kernel
theorem dX9_eventAt_50 : decode cX9_eventAt 50 = .ok (.iload 4, 2) := by decide +kernel
theorem dX9_eventAt_52 : decode cX9_eventAt 52 = .ok (.if_icmp .ge 6, 3) := by decide +kernel
theorem dX9_eventAt_55 : decode cX9_eventAt 55 = .ok (.iload 5, 2) := by decide +kernel
theorem dX9_eventAt_57 : decode cX9_eventAt 57 = .ok (.ireturn, 1) := by decide +kernel
theorem dX9_eventAt_58 : decode cX9_eventAt 58 = .ok (.iinc 5 1, 3) := by decide +kernel
theorem dX9_eventAt_61 : decode cX9_eventAt 61 = .ok (.goto (-45), 3) := by decide +kernel
theorem dX9_eventAt_64 : decode cX9_eventAt 64 = .ok (.sipush (-1000), 3) := by decide +kernel
theorem dX9_eventAt_67 : decode cX9_eventAt 67 = .ok (.ireturn, 1) := by decide +kernel
theorem dX9_crossings_0 : decode cX9_crossings 0 = .ok (.aload_n 0, 1) := by decide +kernel
theorem dX9_crossings_1 : decode cX9_crossings 1 = .ok (.iload_n 1, 1) := by decide +kernel
theorem dX9_crossings_2 : decode cX9_crossings 2 = .ok (.invokevirtual 86, 3) := by decide +kernel
theorem dX9_crossings_5 : decode cX9_crossings 5 = .ok (.aload_n 0, 1) := by decide +kernel
theorem dX9_crossings_6 : decode cX9_crossings 6 = .ok (.getfield 51, 3) := by decide +kernel
theorem dX9_crossings_9 : decode cX9_crossings 9 = .ok (.iload_n 1, 1) := by decide +kernel
theorem dX9_crossings_10 : decode cX9_crossings 10 = .ok (.invokevirtual 172, 3) := by decide +kernel
theorem dX9_crossings_13 : decode cX9_crossings 13 = .ok (.ireturn, 1) := by decide +kernel
theorem dX9_whole_0 : decode cX9_whole 0 = .ok (.iload_n 1, 1) := by decide +kernel
theorem dX9_whole_1 : decode cX9_whole 1 = .ok (.iconst 0, 1) := by decide +kernel
theorem dX9_whole_2 : decode cX9_whole 2 = .ok (.bipush 8, 2) := by decide +kernel
theorem dX9_whole_4 : decode cX9_whole 4 = .ok (.invokestatic 116, 3) := by decide +kernel
theorem dX9_whole_7 : decode cX9_whole 7 = .ok (.iload_n 1, 1) := by decide +kernel
theorem dX9_whole_8 : decode cX9_whole 8 = .ok (.tableswitch 96 0 8 #[52, 96, 96, 96, 96, 60, 68, 76, 88], 52) := by decide +kernel
theorem dX9_whole_60 : decode cX9_whole 60 = .ok (.aload_n 0, 1) := by decide +kernel
theorem dX9_whole_61 : decode cX9_whole 61 = .ok (.getfield 10, 3) := by decide +kernel
theorem dX9_whole_64 : decode cX9_whole 64 = .ok (.invokevirtual 82, 3) := by decide +kernel
theorem dX9_whole_67 : decode cX9_whole 67 = .ok (.ireturn, 1) := by decide +kernel
theorem dX9_whole_68 : decode cX9_whole 68 = .ok (.aload_n 0, 1) := by decide +kernel
theorem dX9_whole_69 : decode cX9_whole 69 = .ok (.getfield 10, 3) := by decide +kernel
theorem dX9_whole_72 : decode cX9_whole 72 = .ok (.invokevirtual 175, 3) := by decide +kernel
theorem dX9_whole_75 : decode cX9_whole 75 = .ok (.ireturn, 1) := by decide +kernel
theorem dX9_whole_76 : decode cX9_whole 76 = .ok (.aload_n 0, 1) := by decide +kernel
theorem dX9_whole_77 : decode cX9_whole 77 = .ok (.getfield 58, 3) := by decide +kernel
theorem dX9_whole_80 : decode cX9_whole 80 = .ok (.invokevirtual 178, 3) := by decide +kernel
theorem dX9_whole_83 : decode cX9_whole 83 = .ok (.ireturn, 1) := by decide +kernel
theorem dX9_whole_84 : decode cX9_whole 84 = .ok (.aload_n 0, 1) := by decide +kernel
theorem dX9_whole_85 : decode cX9_whole 85 = .ok (.getfield 58, 3) := by decide +kernel
theorem dX9_whole_88 : decode cX9_whole 88 = .ok (.aload_n 0, 1) := by decide +kernel
theorem dX9_whole_89 : decode cX9_whole 89 = .ok (.getfield 10, 3) := by decide +kernel
theorem dX9_whole_92 : decode cX9_whole 92 = .ok (.invokevirtual 179, 3) := by decide +kernel
theorem dX9_whole_95 : decode cX9_whole 95 = .ok (.ireturn, 1) := by decide +kernel
theorem dX9_whole_96 : decode cX9_whole 96 = .ok (.aload_n 0, 1) := by decide +kernel
theorem dX9_whole_97 : decode cX9_whole 97 = .ok (.getfield 26, 3) := by decide +kernel
theorem dX9_whole_100 : decode cX9_whole 100 = .ok (.invokevirtual 182, 3) := by decide +kernel
theorem dX9_whole_103 : decode cX9_whole 103 = .ok (.ireturn, 1) := by decide +kernel
theorem dX9_whole_104 : decode cX9_whole 104 = .ok (.aload_n 0, 1) := by decide +kernel
theorem dX9_whole_105 : decode cX9_whole 105 = .ok (.iload_n 1, 1) := by decide +kernel
theorem dX9_whole_106 : decode cX9_whole 106 = .ok (.invokevirtual 185, 3) := by decide +kernel
theorem dX9_whole_109 : decode cX9_whole 109 = .ok (.ireturn, 1) := by decide +kernel
theorem dX9_order_0 : decode cX9_order 0 = .ok (.iload_n 1, 1) := by decide +kernel
theorem dX9_order_1 : decode cX9_order 1 = .ok (.invokestatic 169, 3) := by decide +kernel
theorem dX9_order_4 : decode cX9_order 4 = .ok (.iload_n 1, 1) := by decide +kernel
theorem dX9_order_5 : decode cX9_order 5 = .ok (.aload_n 0, 1) := by decide +kernel
theorem dX9_order_6 : decode cX9_order 6 = .ok (.getfield 58, 3) := by decide +kernel
theorem dX9_order_9 : decode cX9_order 9 = .ok (.invokevirtual 178, 3) := by decide +kernel
theorem dX9_order_12 : decode cX9_order 12 = .ok (.if_icmp .ge 14, 3) := by decide +kernel
theorem dX9_order_15 : decode cX9_order 15 = .ok (.aload_n 0, 1) := by decide +kernel
theorem dX9_order_16 : decode cX9_order 16 = .ok (.getfield 58, 3) := by decide +kernel
theorem dX9_order_19 : decode cX9_order 19 = .ok (.iload_n 1, 1) := by decide +kernel
theorem dX9_order_20 : decode cX9_order 20 = .ok (.invokevirtual 188, 3) := by decide +kernel
theorem dX9_order_23 : decode cX9_order 23 = .ok (.goto 6, 3) := by decide +kernel
theorem dX9_order_26 : decode cX9_order 26 = .ok (.sipush (-1000), 3) := by decide +kernel
theorem dX9_order_29 : decode cX9_order 29 = .ok (.ireturn, 1) := by decide +kernel
theorem dX9_timesPlayed_0 : decode cX9_timesPlayed 0 = .ok (.aload_n 0, 1) := by decide +kernel
theorem dX9_timesPlayed_1 : decode cX9_timesPlayed 1 = .ok (.iload_n 1, 1) := by decide +kernel
theorem dX9_timesPlayed_2 : decode cX9_timesPlayed 2 = .ok (.invokevirtual 86, 3) := by decide +kernel
theorem dX9_timesPlayed_5 : decode cX9_timesPlayed 5 = .ok (.aload_n 0, 1) := by decide +kernel
theorem dX9_timesPlayed_6 : decode cX9_timesPlayed 6 = .ok (.getfield 58, 3) := by decide +kernel
theorem dX9_timesPlayed_9 : decode cX9_timesPlayed 9 = .ok (.iload_n 1, 1) := by decide +kernel
theorem dX9_timesPlayed_10 : decode cX9_timesPlayed 10 = .ok (.invokevirtual 191, 3) := by decide +kernel
theorem dX9_timesPlayed_13 : decode cX9_timesPlayed 13 = .ok (.ireturn, 1) := by decide +kernel
theorem dX9_seconds_0 : decode cX9_seconds 0 = .ok (.iload_n 1, 1) := by decide +kernel
theorem dX9_seconds_1 : decode cX9_seconds 1 = .ok (.invokestatic 169, 3) := by decide +kernel
theorem dX9_seconds_4 : decode cX9_seconds 4 = .ok (.aload_n 0, 1) := by decide +kernel
theorem dX9_seconds_5 : decode cX9_seconds 5 = .ok (.getfield 58, 3) := by decide +kernel
theorem dX9_seconds_8 : decode cX9_seconds 8 = .ok (.aload_n 0, 1) := by decide +kernel
theorem dX9_seconds_9 : decode cX9_seconds 9 = .ok (.getfield 10, 3) := by decide +kernel
theorem dX9_seconds_12 : decode cX9_seconds 12 = .ok (.iload_n 1, 1) := by decide +kernel
theorem dX9_seconds_13 : decode cX9_seconds 13 = .ok (.invokevirtual 194, 3) := by decide +kernel
theorem dX9_seconds_16 : decode cX9_seconds 16 = .ok (.freturn, 1) := by decide +kernel
theorem dX9_placeAt_0 : decode cX9_placeAt 0 = .ok (.iload_n 1, 1) := by decide +kernel
theorem dX9_placeAt_1 : decode cX9_placeAt 1 = .ok (.invokestatic 169, 3) := by decide +kernel
theorem dX9_placeAt_4 : decode cX9_placeAt 4 = .ok (.aload_n 0, 1) := by decide +kernel
theorem dX9_placeAt_5 : decode cX9_placeAt 5 = .ok (.getfield 58, 3) := by decide +kernel
theorem dX9_placeAt_8 : decode cX9_placeAt 8 = .ok (.aload_n 0, 1) := by decide +kernel
theorem dX9_placeAt_9 : decode cX9_placeAt 9 = .ok (.getfield 10, 3) := by decide +kernel
theorem dX9_placeAt_12 : decode cX9_placeAt 12 = .ok (.iload_n 1, 1) := by decide +kernel
theorem dX9_placeAt_13 : decode cX9_placeAt 13 = .ok (.i2f, 1) := by decide +kernel
theorem dX9_placeAt_14 : decode cX9_placeAt 14 = .ok (.invokevirtual 198, 3) := by decide +kernel
theorem dX9_placeAt_17 : decode cX9_placeAt 17 = .ok (.iconst 1, 1) := by decide +kernel
theorem dX9_placeAt_18 : decode cX9_placeAt 18 = .ok (.isub, 1) := by decide +kernel
theorem dX9_placeAt_19 : decode cX9_placeAt 19 = .ok (.istore_n 2, 1) := by decide +kernel
theorem dX9_placeAt_20 : decode cX9_placeAt 20 = .ok (.iload_n 2, 1) := by decide +kernel
theorem dX9_placeAt_21 : decode cX9_placeAt 21 = .ok (.ifCond .lt 18, 3) := by decide +kernel
theorem dX9_placeAt_24 : decode cX9_placeAt 24 = .ok (.iload_n 2, 1) := by decide +kernel
theorem dX9_placeAt_25 : decode cX9_placeAt 25 = .ok (.aload_n 0, 1) := by decide +kernel
theorem dX9_placeAt_26 : decode cX9_placeAt 26 = .ok (.getfield 58, 3) := by decide +kernel
theorem dX9_placeAt_29 : decode cX9_placeAt 29 = .ok (.invokevirtual 178, 3) := by decide +kernel
theorem dX9_placeAt_32 : decode cX9_placeAt 32 = .ok (.if_icmp .ge 7, 3) := by decide +kernel
theorem dX9_placeAt_35 : decode cX9_placeAt 35 = .ok (.iload_n 2, 1) := by decide +kernel
theorem dX9_placeAt_36 : decode cX9_placeAt 36 = .ok (.goto 6, 3) := by decide +kernel
theorem dX9_placeAt_39 : decode cX9_placeAt 39 = .ok (.sipush (-1000), 3) := by decide +kernel
theorem dX9_placeAt_42 : decode cX9_placeAt 42 = .ok (.ireturn, 1) := by decide +kernel
theorem dX9_sentenceLength_0 : decode cX9_sentenceLength 0 = .ok (.aload_n 0, 1) := by decide +kernel
theorem dX9_sentenceLength_1 : decode cX9_sentenceLength 1 = .ok (.iload_n 1, 1) := by decide +kernel
theorem dX9_sentenceLength_2 : decode cX9_sentenceLength 2 = .ok (.invokevirtual 86, 3) := by decide +kernel
theorem dX9_sentenceLength_5 : decode cX9_sentenceLength 5 = .ok (.aload_n 0, 1) := by decide +kernel
theorem dX9_sentenceLength_6 : decode cX9_sentenceLength 6 = .ok (.getfield 33, 3) := by decide +kernel
theorem dX9_sentenceLength_9 : decode cX9_sentenceLength 9 = .ok (.aload_n 0, 1) := by decide +kernel
theorem dX9_sentenceLength_10 : decode cX9_sentenceLength 10 = .ok (.getfield 10, 3) := by decide +kernel
theorem dX9_sentenceLength_13 : decode cX9_sentenceLength 13 = .ok (.iload_n 1, 1) := by decide +kernel
theorem dX9_sentenceLength_14 : decode cX9_sentenceLength 14 = .ok (.invokevirtual 202, 3) := by decide +kernel
theorem dX9_sentenceLength_17 : decode cX9_sentenceLength 17 = .ok (.aload_n 0, 1) := by decide +kernel
theorem dX9_sentenceLength_18 : decode cX9_sentenceLength 18 = .ok (.getfield 33, 3) := by decide +kernel
theorem dX9_sentenceLength_21 : decode cX9_sentenceLength 21 = .ok (.invokevirtual 206, 3) := by decide +kernel
theorem dX9_sentenceLength_24 : decode cX9_sentenceLength 24 = .ok (.ireturn, 1) := by decide +kernel
theorem dX9_sentenceByte_0 : decode cX9_sentenceByte 0 = .ok (.aload_n 0, 1) := by decide +kernel
theorem dX9_sentenceByte_1 : decode cX9_sentenceByte 1 = .ok (.iload_n 1, 1) := by decide +kernel
theorem dX9_sentenceByte_2 : decode cX9_sentenceByte 2 = .ok (.invokevirtual 86, 3) := by decide +kernel
theorem dX9_sentenceByte_5 : decode cX9_sentenceByte 5 = .ok (.iload_n 2, 1) := by decide +kernel
theorem dX9_sentenceByte_6 : decode cX9_sentenceByte 6 = .ok (.invokestatic 169, 3) := by decide +kernel
theorem dX9_sentenceByte_9 : decode cX9_sentenceByte 9 = .ok (.aload_n 0, 1) := by decide +kernel
theorem dX9_sentenceByte_10 : decode cX9_sentenceByte 10 = .ok (.getfield 33, 3) := by decide +kernel
theorem dX9_sentenceByte_13 : decode cX9_sentenceByte 13 = .ok (.aload_n 0, 1) := by decide +kernel
theorem dX9_sentenceByte_14 : decode cX9_sentenceByte 14 = .ok (.getfield 10, 3) := by decide +kernel
theorem dX9_sentenceByte_17 : decode cX9_sentenceByte 17 = .ok (.iload_n 1, 1) := by decide +kernel
theorem dX9_sentenceByte_18 : decode cX9_sentenceByte 18 = .ok (.invokevirtual 202, 3) := by decide +kernel
theorem dX9_sentenceByte_21 : decode cX9_sentenceByte 21 = .ok (.iload_n 2, 1) := by decide +kernel
theorem dX9_sentenceByte_22 : decode cX9_sentenceByte 22 = .ok (.aload_n 0, 1) := by decide +kernel
theorem dX9_sentenceByte_23 : decode cX9_sentenceByte 23 = .ok (.getfield 33, 3) := by decide +kernel
theorem dX9_sentenceByte_26 : decode cX9_sentenceByte 26 = .ok (.invokevirtual 206, 3) := by decide +kernel
theorem dX9_sentenceByte_29 : decode cX9_sentenceByte 29 = .ok (.if_icmp .ge 14, 3) := by decide +kernel
theorem dX9_sentenceByte_32 : decode cX9_sentenceByte 32 = .ok (.aload_n 0, 1) := by decide +kernel
theorem dX9_sentenceByte_33 : decode cX9_sentenceByte 33 = .ok (.getfield 33, 3) := by decide +kernel
theorem dX9_sentenceByte_36 : decode cX9_sentenceByte 36 = .ok (.iload_n 2, 1) := by decide +kernel
theorem dX9_sentenceByte_37 : decode cX9_sentenceByte 37 = .ok (.invokevirtual 207, 3) := by decide +kernel
theorem dX9_sentenceByte_40 : decode cX9_sentenceByte 40 = .ok (.goto 6, 3) := by decide +kernel
theorem dX9_sentenceByte_43 : decode cX9_sentenceByte 43 = .ok (.sipush (-1000), 3) := by decide +kernel
theorem dX9_sentenceByte_46 : decode cX9_sentenceByte 46 = .ok (.ireturn, 1) := by decide +kernel
theorem dX9_words_0 : decode cX9_words 0 = .ok (.aload_n 0, 1) := by decide +kernel
theorem dX9_words_1 : decode cX9_words 1 = .ok (.iload_n 1, 1) := by decide +kernel
theorem dX9_words_2 : decode cX9_words 2 = .ok (.invokevirtual 86, 3) := by decide +kernel
theorem dX9_words_5 : decode cX9_words 5 = .ok (.aload_n 0, 1) := by decide +kernel
theorem dX9_words_6 : decode cX9_words 6 = .ok (.getfield 33, 3) := by decide +kernel
theorem dX9_words_9 : decode cX9_words 9 = .ok (.aload_n 0, 1) := by decide +kernel
theorem dX9_words_10 : decode cX9_words 10 = .ok (.getfield 10, 3) := by decide +kernel
theorem dX9_words_13 : decode cX9_words 13 = .ok (.iload_n 1, 1) := by decide +kernel
theorem dX9_words_14 : decode cX9_words 14 = .ok (.invokevirtual 202, 3) := by decide +kernel
theorem dX9_words_17 : decode cX9_words 17 = .ok (.aload_n 0, 1) := by decide +kernel
theorem dX9_words_18 : decode cX9_words 18 = .ok (.getfield 33, 3) := by decide +kernel
theorem dX9_words_21 : decode cX9_words 21 = .ok (.invokevirtual 208, 3) := by decide +kernel
theorem dX9_words_24 : decode cX9_words 24 = .ok (.ireturn, 1) := by decide +kernel
theorem dX9_copySentence_0 : decode cX9_copySentence 0 = .ok (.aload_n 0, 1) := by decide +kernel
theorem dX9_copySentence_1 : decode cX9_copySentence 1 = .ok (.iload_n 1, 1) := by decide +kernel
theorem dX9_copySentence_2 : decode cX9_copySentence 2 = .ok (.invokevirtual 86, 3) := by decide +kernel
theorem dX9_copySentence_5 : decode cX9_copySentence 5 = .ok (.aload_n 0, 1) := by decide +kernel
theorem dX9_copySentence_6 : decode cX9_copySentence 6 = .ok (.getfield 33, 3) := by decide +kernel
theorem dX9_copySentence_9 : decode cX9_copySentence 9 = .ok (.aload_n 0, 1) := by decide +kernel
theorem dX9_copySentence_10 : decode cX9_copySentence 10 = .ok (.getfield 10, 3) := by decide +kernel
theorem dX9_copySentence_13 : decode cX9_copySentence 13 = .ok (.iload_n 1, 1) := by decide +kernel
theorem dX9_copySentence_14 : decode cX9_copySentence 14 = .ok (.invokevirtual 202, 3) := by decide +kernel
theorem dX9_copySentence_17 : decode cX9_copySentence 17 = .ok (.aload_n 0, 1) := by decide +kernel
theorem dX9_copySentence_18 : decode cX9_copySentence 18 = .ok (.getfield 33, 3) := by decide +kernel
theorem dX9_copySentence_21 : decode cX9_copySentence 21 = .ok (.invokevirtual 206, 3) := by decide +kernel
theorem dX9_copySentence_24 : decode cX9_copySentence 24 = .ok (.sipush 600, 3) := by decide +kernel
theorem dX9_copySentence_27 : decode cX9_copySentence 27 = .ok (.if_icmp .le 13, 3) := by decide +kernel
theorem dX9_copySentence_30 : decode cX9_copySentence 30 = .ok (.new 66, 3) := by decide +kernel
theorem dX9_copySentence_33 : decode cX9_copySentence 33 = .ok (.dup, 1) := by decide +kernel
theorem dX9_copySentence_34 : decode cX9_copySentence 34 = .ok (.ldc 211, 2) := by decide +kernel
theorem dX9_copySentence_36 : decode cX9_copySentence 36 = .ok (.invokespecial 70, 3) := by decide +kernel
theorem dX9_copySentence_39 : decode cX9_copySentence 39 = .ok (.athrow, 1) := by decide +kernel
theorem dX9_copySentence_40 : decode cX9_copySentence 40 = .ok (.aload_n 0, 1) := by decide +kernel
theorem dX9_copySentence_41 : decode cX9_copySentence 41 = .ok (.getfield 26, 3) := by decide +kernel
theorem dX9_copySentence_44 : decode cX9_copySentence 44 = .ok (.aload_n 0, 1) := by decide +kernel
theorem dX9_copySentence_45 : decode cX9_copySentence 45 = .ok (.getfield 26, 3) := by decide +kernel
theorem dX9_copySentence_48 : decode cX9_copySentence 48 = .ok (.invokevirtual 182, 3) := by decide +kernel
theorem dX9_copySentence_51 : decode cX9_copySentence 51 = .ok (.invokevirtual 213, 3) := by decide +kernel
theorem dX9_copySentence_54 : decode cX9_copySentence 54 = .ok (.iconst 0, 1) := by decide +kernel
theorem dX9_copySentence_55 : decode cX9_copySentence 55 = .ok (.istore_n 2, 1) := by decide +kernel
theorem dX9_copySentence_56 : decode cX9_copySentence 56 = .ok (.iload_n 2, 1) := by decide +kernel
theorem dX9_copySentence_57 : decode cX9_copySentence 57 = .ok (.aload_n 0, 1) := by decide +kernel
theorem dX9_copySentence_58 : decode cX9_copySentence 58 = .ok (.getfield 33, 3) := by decide +kernel
theorem dX9_copySentence_61 : decode cX9_copySentence 61 = .ok (.invokevirtual 206, 3) := by decide +kernel
theorem dX9_copySentence_64 : decode cX9_copySentence 64 = .ok (.if_icmp .ge 24, 3) := by decide +kernel
theorem dX9_copySentence_67 : decode cX9_copySentence 67 = .ok (.aload_n 0, 1) := by decide +kernel
theorem dX9_copySentence_68 : decode cX9_copySentence 68 = .ok (.getfield 26, 3) := by decide +kernel
theorem dX9_copySentence_71 : decode cX9_copySentence 71 = .ok (.aload_n 0, 1) := by decide +kernel
theorem dX9_copySentence_72 : decode cX9_copySentence 72 = .ok (.getfield 33, 3) := by decide +kernel
theorem dX9_copySentence_75 : decode cX9_copySentence 75 = .ok (.iload_n 2, 1) := by decide +kernel
theorem dX9_copySentence_76 : decode cX9_copySentence 76 = .ok (.invokevirtual 207, 3) := by decide +kernel
theorem dX9_copySentence_79 : decode cX9_copySentence 79 = .ok (.invokevirtual 216, 3) := by decide +kernel
theorem dX9_copySentence_82 : decode cX9_copySentence 82 = .ok (.iinc 2 1, 3) := by decide +kernel
theorem dX9_copySentence_85 : decode cX9_copySentence 85 = .ok (.goto (-29), 3) := by decide +kernel
theorem dX9_copySentence_88 : decode cX9_copySentence 88 = .ok (.aload_n 0, 1) := by decide +kernel
theorem dX9_copySentence_89 : decode cX9_copySentence 89 = .ok (.getfield 26, 3) := by decide +kernel
theorem dX9_copySentence_92 : decode cX9_copySentence 92 = .ok (.invokevirtual 182, 3) := by decide +kernel
theorem dX9_copySentence_95 : decode cX9_copySentence 95 = .ok (.ireturn, 1) := by decide +kernel
theorem dX9_type_0 : decode cX9_type 0 = .ok (.iload_n 1, 1) := by decide +kernel
theorem dX9_type_1 : decode cX9_type 1 = .ok (.iconst 0, 1) := by decide +kernel
theorem dX9_type_2 : decode cX9_type 2 = .ok (.bipush 127, 2) := by decide +kernel
theorem dX9_type_4 : decode cX9_type 4 = .ok (.invokestatic 116, 3) := by decide +kernel
theorem dX9_type_7 : decode cX9_type 7 = .ok (.aload_n 0, 1) := by decide +kernel
theorem dX9_type_8 : decode cX9_type 8 = .ok (.getfield 26, 3) := by decide +kernel
theorem dX9_type_11 : decode cX9_type 11 = .ok (.invokevirtual 182, 3) := by decide +kernel
theorem dX9_type_14 : decode cX9_type 14 = .ok (.sipush 600, 3) := by decide +kernel
theorem dX9_type_17 : decode cX9_type 17 = .ok (.if_icmp .lt 13, 3) := by decide +kernel
theorem dX9_type_20 : decode cX9_type 20 = .ok (.new 66, 3) := by decide +kernel
theorem dX9_type_23 : decode cX9_type 23 = .ok (.dup, 1) := by decide +kernel
theorem dX9_type_24 : decode cX9_type 24 = .ok (.ldc 219, 2) := by decide +kernel
theorem dX9_type_26 : decode cX9_type 26 = .ok (.invokespecial 70, 3) := by decide +kernel
theorem dX9_type_29 : decode cX9_type 29 = .ok (.athrow, 1) := by decide +kernel
theorem dX9_type_30 : decode cX9_type 30 = .ok (.aload_n 0, 1) := by decide +kernel
theorem dX9_type_31 : decode cX9_type 31 = .ok (.getfield 26, 3) := by decide +kernel
theorem dX9_type_34 : decode cX9_type 34 = .ok (.iload_n 1, 1) := by decide +kernel
theorem dX9_type_35 : decode cX9_type 35 = .ok (.invokevirtual 216, 3) := by decide +kernel
theorem dX9_type_38 : decode cX9_type 38 = .ok (.aload_n 0, 1) := by decide +kernel
theorem dX9_type_39 : decode cX9_type 39 = .ok (.getfield 26, 3) := by decide +kernel
theorem dX9_type_42 : decode cX9_type 42 = .ok (.invokevirtual 182, 3) := by decide +kernel
theorem dX9_type_45 : decode cX9_type 45 = .ok (.ireturn, 1) := by decide +kernel
theorem dX9_cut_0 : decode cX9_cut 0 = .ok (.iload_n 1, 1) := by decide +kernel
theorem dX9_cut_1 : decode cX9_cut 1 = .ok (.iconst 1, 1) := by decide +kernel
theorem dX9_cut_2 : decode cX9_cut 2 = .ok (.sipush 600, 3) := by decide +kernel
theorem dX9_cut_5 : decode cX9_cut 5 = .ok (.invokestatic 116, 3) := by decide +kernel
theorem dX9_cut_8 : decode cX9_cut 8 = .ok (.aload_n 0, 1) := by decide +kernel
theorem dX9_cut_9 : decode cX9_cut 9 = .ok (.getfield 26, 3) := by decide +kernel
theorem dX9_cut_12 : decode cX9_cut 12 = .ok (.invokevirtual 182, 3) := by decide +kernel
theorem dX9_cut_15 : decode cX9_cut 15 = .ok (.iload_n 1, 1) := by decide +kernel
theorem dX9_cut_16 : decode cX9_cut 16 = .ok (.if_icmp .ge 13, 3) := by decide +kernel
theorem dX9_cut_19 : decode cX9_cut 19 = .ok (.new 66, 3) := by decide +kernel
theorem dX9_cut_22 : decode cX9_cut 22 = .ok (.dup, 1) := by decide +kernel
theorem dX9_cut_23 : decode cX9_cut 23 = .ok (.ldc 221, 2) := by decide +kernel
theorem dX9_cut_25 : decode cX9_cut 25 = .ok (.invokespecial 70, 3) := by decide +kernel
theorem dX9_cut_28 : decode cX9_cut 28 = .ok (.athrow, 1) := by decide +kernel
theorem dX9_cut_29 : decode cX9_cut 29 = .ok (.aload_n 0, 1) := by decide +kernel
theorem dX9_cut_30 : decode cX9_cut 30 = .ok (.getfield 26, 3) := by decide +kernel
theorem dX9_cut_33 : decode cX9_cut 33 = .ok (.iload_n 1, 1) := by decide +kernel
theorem dX9_cut_34 : decode cX9_cut 34 = .ok (.invokevirtual 213, 3) := by decide +kernel
theorem dX9_cut_37 : decode cX9_cut 37 = .ok (.aload_n 0, 1) := by decide +kernel
theorem dX9_cut_38 : decode cX9_cut 38 = .ok (.getfield 26, 3) := by decide +kernel
theorem dX9_cut_41 : decode cX9_cut 41 = .ok (.invokevirtual 182, 3) := by decide +kernel
theorem dX9_cut_44 : decode cX9_cut 44 = .ok (.ireturn, 1) := by decide +kernel
theorem dX9_clearText_0 : decode cX9_clearText 0 = .ok (.aload_n 0, 1) := by decide +kernel
theorem dX9_clearText_1 : decode cX9_clearText 1 = .ok (.getfield 26, 3) := by decide +kernel
theorem dX9_clearText_4 : decode cX9_clearText 4 = .ok (.invokevirtual 182, 3) := by decide +kernel
theorem dX9_clearText_7 : decode cX9_clearText 7 = .ok (.istore_n 1, 1) := by decide +kernel
theorem dX9_clearText_8 : decode cX9_clearText 8 = .ok (.aload_n 0, 1) := by decide +kernel
theorem dX9_clearText_9 : decode cX9_clearText 9 = .ok (.getfield 26, 3) := by decide +kernel
theorem dX9_clearText_12 : decode cX9_clearText 12 = .ok (.iload_n 1, 1) := by decide +kernel
theorem dX9_clearText_13 : decode cX9_clearText 13 = .ok (.invokevirtual 213, 3) := by decide +kernel
theorem dX9_clearText_16 : decode cX9_clearText 16 = .ok (.iload_n 1, 1) := by decide +kernel
theorem dX9_clearText_17 : decode cX9_clearText 17 = .ok (.ireturn, 1) := by decide +kernel
theorem dX9_fault_0 : decode cX9_fault 0 = .ok (.aload_n 0, 1) := by decide +kernel
theorem dX9_fault_1 : decode cX9_fault 1 = .ok (.getfield 42, 3) := by decide +kernel
theorem dX9_fault_4 : decode cX9_fault 4 = .ok (.invokevirtual 223, 3) := by decide +kernel
theorem dX9_fault_7 : decode cX9_fault 7 = .ok (.ireturn, 1) := by decide +kernel
theorem dX9_readInto_0 : decode cX9_readInto 0 = .ok (.aload_n 0, 1) := by decide +kernel
theorem dX9_readInto_1 : decode cX9_readInto 1 = .ok (.iload_n 1, 1) := by decide +kernel
theorem dX9_readInto_2 : decode cX9_readInto 2 = .ok (.invokevirtual 86, 3) := by decide +kernel
theorem dX9_readInto_5 : decode cX9_readInto 5 = .ok (.aload_n 0, 1) := by decide +kernel
theorem dX9_readInto_6 : decode cX9_readInto 6 = .ok (.getfield 42, 3) := by decide +kernel
theorem dX9_readInto_9 : decode cX9_readInto 9 = .ok (.invokevirtual 223, 3) := by decide +kernel
theorem dX9_readInto_12 : decode cX9_readInto 12 = .ok (.istore_n 2, 1) := by decide +kernel
theorem dX9_readInto_13 : decode cX9_readInto 13 = .ok (.iload_n 2, 1) := by decide +kernel
theorem dX9_readInto_14 : decode cX9_readInto 14 = .ok (.sipush (-1000), 3) := by decide +kernel
theorem dX9_readInto_17 : decode cX9_readInto 17 = .ok (.if_icmp .eq 9, 3) := by decide +kernel
theorem dX9_readInto_20 : decode cX9_readInto 20 = .ok (.sipush (-2000), 3) := by decide +kernel
theorem dX9_readInto_23 : decode cX9_readInto 23 = .ok (.iload_n 2, 1) := by decide +kernel
theorem dX9_readInto_24 : decode cX9_readInto 24 = .ok (.isub, 1) := by decide +kernel
theorem dX9_readInto_25 : decode cX9_readInto 25 = .ok (.ireturn, 1) := by decide +kernel
theorem dX9_readInto_26 : decode cX9_readInto 26 = .ok (.aload_n 0, 1) := by decide +kernel
theorem dX9_readInto_27 : decode cX9_readInto 27 = .ok (.getfield 19, 3) := by decide +kernel
theorem dX9_readInto_30 : decode cX9_readInto 30 = .ok (.aload_n 0, 1) := by decide +kernel
theorem dX9_readInto_31 : decode cX9_readInto 31 = .ok (.getfield 10, 3) := by decide +kernel
theorem dX9_readInto_34 : decode cX9_readInto 34 = .ok (.invokevirtual 73, 3) := by decide +kernel
theorem dX9_readInto_37 : decode cX9_readInto 37 = .ok (.aload_n 0, 1) := by decide +kernel
theorem dX9_readInto_38 : decode cX9_readInto 38 = .ok (.getfield 10, 3) := by decide +kernel
theorem dX9_readInto_41 : decode cX9_readInto 41 = .ok (.iload_n 1, 1) := by decide +kernel
theorem dX9_readInto_42 : decode cX9_readInto 42 = .ok (.aload_n 0, 1) := by decide +kernel
theorem dX9_readInto_43 : decode cX9_readInto 43 = .ok (.getfield 42, 3) := by decide +kernel
theorem dX9_readInto_46 : decode cX9_readInto 46 = .ok (.invokevirtual 226, 3) := by decide +kernel
theorem dX9_readInto_49 : decode cX9_readInto 49 = .ok (.invokevirtual 230, 3) := by decide +kernel
theorem dX9_readInto_52 : decode cX9_readInto 52 = .ok (.aload_n 0, 1) := by decide +kernel
theorem dX9_readInto_53 : decode cX9_readInto 53 = .ok (.invokevirtual 79, 3) := by decide +kernel
theorem dX9_readInto_56 : decode cX9_readInto 56 = .ok (.aload_n 0, 1) := by decide +kernel
theorem dX9_readInto_57 : decode cX9_readInto 57 = .ok (.getfield 10, 3) := by decide +kernel
theorem dX9_readInto_60 : decode cX9_readInto 60 = .ok (.iload_n 1, 1) := by decide +kernel
theorem dX9_readInto_61 : decode cX9_readInto 61 = .ok (.iconst 0, 1) := by decide +kernel
theorem dX9_readInto_62 : decode cX9_readInto 62 = .ok (.invokevirtual 129, 3) := by decide +kernel
theorem dX9_readInto_65 : decode cX9_readInto 65 = .ok (.aload_n 0, 1) := by decide +kernel
theorem dX9_readInto_66 : decode cX9_readInto 66 = .ok (.getfield 10, 3) := by decide +kernel
theorem dX9_readInto_69 : decode cX9_readInto 69 = .ok (.iload_n 1, 1) := by decide +kernel
theorem dX9_readInto_70 : decode cX9_readInto 70 = .ok (.iconst 1, 1) := by decide +kernel
theorem dX9_readInto_71 : decode cX9_readInto 71 = .ok (.invokevirtual 129, 3) := by decide +kernel
theorem dX9_readInto_74 : decode cX9_readInto 74 = .ok (.iadd, 1) := by decide +kernel
theorem dX9_readInto_75 : decode cX9_readInto 75 = .ok (.ireturn, 1) := by decide +kernel
theorem dX9_tells_0 : decode cX9_tells 0 = .ok (.aload_n 0, 1) := by decide +kernel
theorem dX9_tells_1 : decode cX9_tells 1 = .ok (.iload_n 1, 1) := by decide +kernel
theorem dX9_tells_2 : decode cX9_tells 2 = .ok (.invokevirtual 86, 3) := by decide +kernel
theorem dX9_tells_5 : decode cX9_tells 5 = .ok (.aload_n 0, 1) := by decide +kernel
theorem dX9_tells_6 : decode cX9_tells 6 = .ok (.getfield 42, 3) := by decide +kernel
theorem dX9_tells_9 : decode cX9_tells 9 = .ok (.invokevirtual 223, 3) := by decide +kernel
theorem dX9_tells_12 : decode cX9_tells 12 = .ok (.sipush (-1000), 3) := by decide +kernel
theorem dX9_tells_15 : decode cX9_tells 15 = .ok (.if_icmp .ne 25, 3) := by decide +kernel
theorem dX9_tells_18 : decode cX9_tells 18 = .ok (.aload_n 0, 1) := by decide +kernel
theorem dX9_tells_19 : decode cX9_tells 19 = .ok (.getfield 10, 3) := by decide +kernel
theorem dX9_tells_22 : decode cX9_tells 22 = .ok (.iload_n 1, 1) := by decide +kernel
theorem dX9_tells_23 : decode cX9_tells 23 = .ok (.aload_n 0, 1) := by decide +kernel
theorem dX9_tells_24 : decode cX9_tells 24 = .ok (.getfield 42, 3) := by decide +kernel
theorem dX9_tells_27 : decode cX9_tells 27 = .ok (.invokevirtual 226, 3) := by decide +kernel
theorem dX9_tells_30 : decode cX9_tells 30 = .ok (.invokevirtual 234, 3) := by decide +kernel
theorem dX9_tells_33 : decode cX9_tells 33 = .ok (.ifCond .eq 7, 3) := by decide +kernel
theorem dX9_tells_36 : decode cX9_tells 36 = .ok (.iconst 1, 1) := by decide +kernel
theorem dX9_tells_37 : decode cX9_tells 37 = .ok (.goto 4, 3) := by decide +kernel
theorem dX9_tells_40 : decode cX9_tells 40 = .ok (.iconst 0, 1) := by decide +kernel
theorem dX9_tells_41 : decode cX9_tells 41 = .ok (.ireturn, 1) := by decide +kernel
theorem dX9_changedBy_0 : decode cX9_changedBy 0 = .ok (.aload_n 0, 1) := by decide +kernel
theorem dX9_changedBy_1 : decode cX9_changedBy 1 = .ok (.iload_n 1, 1) := by decide +kernel
theorem dX9_changedBy_2 : decode cX9_changedBy 2 = .ok (.invokevirtual 86, 3) := by decide +kernel
theorem dX9_changedBy_5 : decode cX9_changedBy 5 = .ok (.iload_n 2, 1) := by decide +kernel
theorem dX9_changedBy_6 : decode cX9_changedBy 6 = .ok (.bipush (-7), 2) := by decide +kernel
theorem dX9_changedBy_8 : decode cX9_changedBy 8 = .ok (.bipush 7, 2) := by decide +kernel
theorem dX9_changedBy_10 : decode cX9_changedBy 10 = .ok (.invokestatic 116, 3) := by decide +kernel
theorem dX9_changedBy_13 : decode cX9_changedBy 13 = .ok (.aload_n 0, 1) := by decide +kernel
theorem dX9_changedBy_14 : decode cX9_changedBy 14 = .ok (.getfield 51, 3) := by decide +kernel
theorem dX9_changedBy_17 : decode cX9_changedBy 17 = .ok (.iload_n 1, 1) := by decide +kernel
theorem dX9_changedBy_18 : decode cX9_changedBy 18 = .ok (.iload_n 2, 1) := by decide +kernel
theorem dX9_changedBy_19 : decode cX9_changedBy 19 = .ok (.invokevirtual 238, 3) := by decide +kernel
theorem dX9_changedBy_22 : decode cX9_changedBy 22 = .ok (.ireturn, 1) := by decide +kernel
theorem dX9_nearestKey_0 : decode cX9_nearestKey 0 = .ok (.aload_n 0, 1) := by decide +kernel
theorem dX9_nearestKey_1 : decode cX9_nearestKey 1 = .ok (.iload_n 1, 1) := by decide +kernel
theorem dX9_nearestKey_2 : decode cX9_nearestKey 2 = .ok (.invokevirtual 86, 3) := by decide +kernel
theorem dX9_nearestKey_5 : decode cX9_nearestKey 5 = .ok (.sipush (-1000), 3) := by decide +kernel
theorem dX9_nearestKey_8 : decode cX9_nearestKey 8 = .ok (.istore_n 2, 1) := by decide +kernel
theorem dX9_nearestKey_9 : decode cX9_nearestKey 9 = .ok (.bipush 49, 2) := by decide +kernel
theorem dX9_nearestKey_11 : decode cX9_nearestKey 11 = .ok (.istore_n 3, 1) := by decide +kernel
theorem dX9_nearestKey_12 : decode cX9_nearestKey 12 = .ok (.bipush (-7), 2) := by decide +kernel
theorem dX9_nearestKey_14 : decode cX9_nearestKey 14 = .ok (.istore 4, 2) := by decide +kernel
theorem dX9_nearestKey_16 : decode cX9_nearestKey 16 = .ok (.iload 4, 2) := by decide +kernel
theorem dX9_nearestKey_18 : decode cX9_nearestKey 18 = .ok (.bipush 7, 2) := by decide +kernel
theorem dX9_nearestKey_20 : decode cX9_nearestKey 20 = .ok (.if_icmp .gt 47, 3) := by decide +kernel
theorem dX9_nearestKey_23 : decode cX9_nearestKey 23 = .ok (.iload 4, 2) := by decide +kernel
theorem dX9_nearestKey_25 : decode cX9_nearestKey 25 = .ok (.aload_n 0, 1) := by decide +kernel
theorem dX9_nearestKey_26 : decode cX9_nearestKey 26 = .ok (.getfield 10, 3) := by decide +kernel
theorem dX9_nearestKey_29 : decode cX9_nearestKey 29 = .ok (.iload_n 1, 1) := by decide +kernel
theorem dX9_nearestKey_30 : decode cX9_nearestKey 30 = .ok (.iconst 0, 1) := by decide +kernel
theorem dX9_nearestKey_31 : decode cX9_nearestKey 31 = .ok (.invokevirtual 102, 3) := by decide +kernel
theorem dX9_nearestKey_34 : decode cX9_nearestKey 34 = .ok (.if_icmp .eq 27, 3) := by decide +kernel
theorem dX9_nearestKey_37 : decode cX9_nearestKey 37 = .ok (.aload_n 0, 1) := by decide +kernel
theorem dX9_nearestKey_38 : decode cX9_nearestKey 38 = .ok (.getfield 51, 3) := by decide +kernel
theorem dX9_nearestKey_41 : decode cX9_nearestKey 41 = .ok (.iload_n 1, 1) := by decide +kernel
theorem dX9_nearestKey_42 : decode cX9_nearestKey 42 = .ok (.iload 4, 2) := by decide +kernel
theorem dX9_nearestKey_44 : decode cX9_nearestKey 44 = .ok (.invokevirtual 238, 3) := by decide +kernel
theorem dX9_nearestKey_47 : decode cX9_nearestKey 47 = .ok (.istore 5, 2) := by decide +kernel
theorem dX9_nearestKey_49 : decode cX9_nearestKey 49 = .ok (.iload 5, 2) := by decide +kernel
theorem dX9_nearestKey_51 : decode cX9_nearestKey 51 = .ok (.iload_n 3, 1) := by decide +kernel
theorem dX9_nearestKey_52 : decode cX9_nearestKey 52 = .ok (.if_icmp .ge 9, 3) := by decide +kernel
theorem dX9_nearestKey_55 : decode cX9_nearestKey 55 = .ok (.iload 5, 2) := by decide +kernel
theorem dX9_nearestKey_57 : decode cX9_nearestKey 57 = .ok (.istore_n 3, 1) := by decide +kernel
theorem dX9_nearestKey_58 : decode cX9_nearestKey 58 = .ok (.iload 4, 2) := by decide +kernel
theorem dX9_nearestKey_60 : decode cX9_nearestKey 60 = .ok (.istore_n 2, 1) := by decide +kernel
theorem dX9_nearestKey_61 : decode cX9_nearestKey 61 = .ok (.iinc 4 1, 3) := by decide +kernel
theorem dX9_nearestKey_64 : decode cX9_nearestKey 64 = .ok (.goto (-48), 3) := by decide +kernel
theorem dX9_nearestKey_67 : decode cX9_nearestKey 67 = .ok (.iload_n 2, 1) := by decide +kernel
theorem dX9_nearestKey_68 : decode cX9_nearestKey 68 = .ok (.ireturn, 1) := by decide +kernel
theorem dX9_needlessSigns_0 : decode cX9_needlessSigns 0 = .ok (.aload_n 0, 1) := by decide +kernel
theorem dX9_needlessSigns_1 : decode cX9_needlessSigns 1 = .ok (.iload_n 1, 1) := by decide +kernel
theorem dX9_needlessSigns_2 : decode cX9_needlessSigns 2 = .ok (.invokevirtual 86, 3) := by decide +kernel
theorem dX9_needlessSigns_5 : decode cX9_needlessSigns 5 = .ok (.aload_n 0, 1) := by decide +kernel
theorem dX9_needlessSigns_6 : decode cX9_needlessSigns 6 = .ok (.getfield 51, 3) := by decide +kernel
theorem dX9_needlessSigns_9 : decode cX9_needlessSigns 9 = .ok (.iload_n 1, 1) := by decide +kernel
theorem dX9_needlessSigns_10 : decode cX9_needlessSigns 10 = .ok (.invokevirtual 241, 3) := by decide +kernel
theorem dX9_needlessSigns_13 : decode cX9_needlessSigns 13 = .ok (.ireturn, 1) := by decide +kernel
theorem dX9_undo_0 : decode cX9_undo 0 = .ok (.aload_n 0, 1) := by decide +kernel
theorem dX9_undo_1 : decode cX9_undo 1 = .ok (.getfield 19, 3) := by decide +kernel
theorem dX9_undo_4 : decode cX9_undo 4 = .ok (.invokevirtual 244, 3) := by decide +kernel
theorem dX9_undo_7 : decode cX9_undo 7 = .ok (.ifCond .ne 13, 3) := by decide +kernel
theorem dX9_undo_10 : decode cX9_undo 10 = .ok (.new 66, 3) := by decide +kernel
theorem dX9_undo_13 : decode cX9_undo 13 = .ok (.dup, 1) := by decide +kernel
theorem dX9_undo_14 : decode cX9_undo 14 = .ok (.ldc 245, 2) := by decide +kernel
theorem dX9_undo_16 : decode cX9_undo 16 = .ok (.invokespecial 70, 3) := by decide +kernel
theorem dX9_undo_19 : decode cX9_undo 19 = .ok (.athrow, 1) := by decide +kernel
theorem dX9_undo_20 : decode cX9_undo 20 = .ok (.aload_n 0, 1) := by decide +kernel
theorem dX9_undo_21 : decode cX9_undo 21 = .ok (.getfield 19, 3) := by decide +kernel
theorem dX9_undo_24 : decode cX9_undo 24 = .ok (.aload_n 0, 1) := by decide +kernel
theorem dX9_undo_25 : decode cX9_undo 25 = .ok (.getfield 10, 3) := by decide +kernel
theorem dX9_undo_28 : decode cX9_undo 28 = .ok (.invokevirtual 247, 3) := by decide +kernel
theorem dX9_undo_31 : decode cX9_undo 31 = .ok (.aload_n 0, 1) := by decide +kernel
theorem dX9_undo_32 : decode cX9_undo 32 = .ok (.invokevirtual 79, 3) := by decide +kernel
theorem dX9_undo_35 : decode cX9_undo 35 = .ok (.aload_n 0, 1) := by decide +kernel
theorem dX9_undo_36 : decode cX9_undo 36 = .ok (.getfield 19, 3) := by decide +kernel
theorem dX9_undo_39 : decode cX9_undo 39 = .ok (.invokevirtual 244, 3) := by decide +kernel
theorem dX9_undo_42 : decode cX9_undo 42 = .ok (.ireturn, 1) := by decide +kernel
theorem dX9_digest_0 : decode cX9_digest 0 = .ok (.ldc2_w 250, 3) := by decide +kernel
theorem dX9_digest_3 : decode cX9_digest 3 = .ok (.aload_n 0, 1) := by decide +kernel
theorem dX9_digest_4 : decode cX9_digest 4 = .ok (.getfield 19, 3) := by decide +kernel
theorem dX9_digest_7 : decode cX9_digest 7 = .ok (.invokevirtual 244, 3) := by decide +kernel
theorem dX9_digest_10 : decode cX9_digest 10 = .ok (.i2l, 1) := by decide +kernel
theorem dX9_digest_11 : decode cX9_digest 11 = .ok (.invokestatic 252, 3) := by decide +kernel
theorem dX9_digest_14 : decode cX9_digest 14 = .ok (.lstore_n 1, 1) := by decide +kernel
theorem dX9_digest_15 : decode cX9_digest 15 = .ok (.iconst 0, 1) := by decide +kernel
theorem dX9_digest_16 : decode cX9_digest 16 = .ok (.istore_n 3, 1) := by decide +kernel
theorem dX9_digest_17 : decode cX9_digest 17 = .ok (.iload_n 3, 1) := by decide +kernel
theorem dX9_digest_18 : decode cX9_digest 18 = .ok (.bipush 9, 2) := by decide +kernel
theorem dX9_digest_20 : decode cX9_digest 20 = .ok (.if_icmp .ge 20, 3) := by decide +kernel
theorem dX9_digest_23 : decode cX9_digest 23 = .ok (.lload_n 1, 1) := by decide +kernel
theorem dX9_digest_24 : decode cX9_digest 24 = .ok (.aload_n 0, 1) := by decide +kernel
theorem dX9_digest_25 : decode cX9_digest 25 = .ok (.iload_n 3, 1) := by decide +kernel
theorem dX9_digest_26 : decode cX9_digest 26 = .ok (.invokevirtual 256, 3) := by decide +kernel
theorem dX9_digest_29 : decode cX9_digest 29 = .ok (.i2l, 1) := by decide +kernel
theorem dX9_digest_30 : decode cX9_digest 30 = .ok (.invokestatic 252, 3) := by decide +kernel
theorem dX9_digest_33 : decode cX9_digest 33 = .ok (.lstore_n 1, 1) := by decide +kernel
theorem dX9_digest_34 : decode cX9_digest 34 = .ok (.iinc 3 1, 3) := by decide +kernel
theorem dX9_digest_37 : decode cX9_digest 37 = .ok (.goto (-20), 3) := by decide +kernel
theorem dX9_digest_40 : decode cX9_digest 40 = .ok (.iconst 0, 1) := by decide +kernel
theorem dX9_digest_41 : decode cX9_digest 41 = .ok (.istore_n 3, 1) := by decide +kernel
theorem dX9_digest_42 : decode cX9_digest 42 = .ok (.iload_n 3, 1) := by decide +kernel
theorem dX9_digest_43 : decode cX9_digest 43 = .ok (.aload_n 0, 1) := by decide +kernel
theorem dX9_digest_44 : decode cX9_digest 44 = .ok (.getfield 10, 3) := by decide +kernel
theorem dX9_digest_47 : decode cX9_digest 47 = .ok (.invokevirtual 82, 3) := by decide +kernel
theorem dX9_digest_50 : decode cX9_digest 50 = .ok (.if_icmp .ge 61, 3) := by decide +kernel
theorem dX9_digest_53 : decode cX9_digest 53 = .ok (.aload_n 0, 1) := by decide +kernel
theorem dX9_digest_54 : decode cX9_digest 54 = .ok (.lload_n 1, 1) := by decide +kernel
theorem dX9_digest_55 : decode cX9_digest 55 = .ok (.iload_n 3, 1) := by decide +kernel
theorem dX9_digest_56 : decode cX9_digest 56 = .ok (.invokevirtual 259, 3) := by decide +kernel
theorem dX9_digest_59 : decode cX9_digest 59 = .ok (.lstore_n 1, 1) := by decide +kernel
theorem dX9_digest_60 : decode cX9_digest 60 = .ok (.aload_n 0, 1) := by decide +kernel
theorem dX9_digest_61 : decode cX9_digest 61 = .ok (.lload_n 1, 1) := by decide +kernel
theorem dX9_digest_62 : decode cX9_digest 62 = .ok (.iload_n 3, 1) := by decide +kernel
theorem dX9_digest_63 : decode cX9_digest 63 = .ok (.iconst 0, 1) := by decide +kernel
theorem dX9_digest_64 : decode cX9_digest 64 = .ok (.invokevirtual 263, 3) := by decide +kernel
theorem dX9_digest_67 : decode cX9_digest 67 = .ok (.lstore_n 1, 1) := by decide +kernel
theorem dX9_digest_68 : decode cX9_digest 68 = .ok (.aload_n 0, 1) := by decide +kernel
theorem dX9_digest_69 : decode cX9_digest 69 = .ok (.lload_n 1, 1) := by decide +kernel
theorem dX9_digest_70 : decode cX9_digest 70 = .ok (.iload_n 3, 1) := by decide +kernel
theorem dX9_digest_71 : decode cX9_digest 71 = .ok (.iconst 1, 1) := by decide +kernel
theorem dX9_digest_72 : decode cX9_digest 72 = .ok (.invokevirtual 263, 3) := by decide +kernel
theorem dX9_digest_75 : decode cX9_digest 75 = .ok (.lstore_n 1, 1) := by decide +kernel
theorem dX9_digest_76 : decode cX9_digest 76 = .ok (.lload_n 1, 1) := by decide +kernel
theorem dX9_digest_77 : decode cX9_digest 77 = .ok (.aload_n 0, 1) := by decide +kernel
theorem dX9_digest_78 : decode cX9_digest 78 = .ok (.iload_n 3, 1) := by decide +kernel
theorem dX9_digest_79 : decode cX9_digest 79 = .ok (.invokevirtual 267, 3) := by decide +kernel
theorem dX9_digest_82 : decode cX9_digest 82 = .ok (.i2l, 1) := by decide +kernel
theorem dX9_digest_83 : decode cX9_digest 83 = .ok (.invokestatic 252, 3) := by decide +kernel
theorem dX9_digest_86 : decode cX9_digest 86 = .ok (.lstore_n 1, 1) := by decide +kernel
theorem dX9_digest_87 : decode cX9_digest 87 = .ok (.lload_n 1, 1) := by decide +kernel
theorem dX9_digest_88 : decode cX9_digest 88 = .ok (.aload_n 0, 1) := by decide +kernel
theorem dX9_digest_89 : decode cX9_digest 89 = .ok (.iload_n 3, 1) := by decide +kernel
theorem dX9_digest_90 : decode cX9_digest 90 = .ok (.invokevirtual 270, 3) := by decide +kernel
theorem dX9_digest_93 : decode cX9_digest 93 = .ok (.i2l, 1) := by decide +kernel
theorem dX9_digest_94 : decode cX9_digest 94 = .ok (.invokestatic 252, 3) := by decide +kernel
theorem dX9_digest_97 : decode cX9_digest 97 = .ok (.lstore_n 1, 1) := by decide +kernel
theorem dX9_digest_98 : decode cX9_digest 98 = .ok (.aload_n 0, 1) := by decide +kernel
theorem dX9_digest_99 : decode cX9_digest 99 = .ok (.lload_n 1, 1) := by decide +kernel
theorem dX9_digest_100 : decode cX9_digest 100 = .ok (.iload_n 3, 1) := by decide +kernel
theorem dX9_digest_101 : decode cX9_digest 101 = .ok (.invokevirtual 273, 3) := by decide +kernel
theorem dX9_digest_104 : decode cX9_digest 104 = .ok (.lstore_n 1, 1) := by decide +kernel
theorem dX9_digest_105 : decode cX9_digest 105 = .ok (.iinc 3 1, 3) := by decide +kernel
theorem dX9_digest_108 : decode cX9_digest 108 = .ok (.goto (-66), 3) := by decide +kernel
theorem dX9_digest_111 : decode cX9_digest 111 = .ok (.iconst 0, 1) := by decide +kernel
theorem dX9_digest_112 : decode cX9_digest 112 = .ok (.istore_n 3, 1) := by decide +kernel
theorem dX9_digest_113 : decode cX9_digest 113 = .ok (.iload_n 3, 1) := by decide +kernel
theorem dX9_digest_114 : decode cX9_digest 114 = .ok (.aload_n 0, 1) := by decide +kernel
theorem dX9_digest_115 : decode cX9_digest 115 = .ok (.getfield 58, 3) := by decide +kernel
theorem dX9_digest_118 : decode cX9_digest 118 = .ok (.invokevirtual 178, 3) := by decide +kernel
theorem dX9_digest_121 : decode cX9_digest 121 = .ok (.if_icmp .ge 23, 3) := by decide +kernel
theorem dX9_digest_124 : decode cX9_digest 124 = .ok (.lload_n 1, 1) := by decide +kernel
theorem dX9_digest_125 : decode cX9_digest 125 = .ok (.aload_n 0, 1) := by decide +kernel
theorem dX9_digest_126 : decode cX9_digest 126 = .ok (.getfield 58, 3) := by decide +kernel
theorem dX9_digest_129 : decode cX9_digest 129 = .ok (.iload_n 3, 1) := by decide +kernel
theorem dX9_digest_130 : decode cX9_digest 130 = .ok (.invokevirtual 188, 3) := by decide +kernel
theorem dX9_digest_133 : decode cX9_digest 133 = .ok (.i2l, 1) := by decide +kernel
theorem dX9_digest_134 : decode cX9_digest 134 = .ok (.invokestatic 252, 3) := by decide +kernel
theorem dX9_digest_137 : decode cX9_digest 137 = .ok (.lstore_n 1, 1) := by decide +kernel
theorem dX9_digest_138 : decode cX9_digest 138 = .ok (.iinc 3 1, 3) := by decide +kernel
theorem dX9_digest_141 : decode cX9_digest 141 = .ok (.goto (-28), 3) := by decide +kernel
theorem dX9_digest_144 : decode cX9_digest 144 = .ok (.lload_n 1, 1) := by decide +kernel
theorem dX9_digest_145 : decode cX9_digest 145 = .ok (.aload_n 0, 1) := by decide +kernel
theorem dX9_digest_146 : decode cX9_digest 146 = .ok (.getfield 42, 3) := by decide +kernel
theorem dX9_digest_149 : decode cX9_digest 149 = .ok (.invokevirtual 223, 3) := by decide +kernel
theorem dX9_digest_152 : decode cX9_digest 152 = .ok (.i2l, 1) := by decide +kernel
theorem dX9_digest_153 : decode cX9_digest 153 = .ok (.invokestatic 252, 3) := by decide +kernel
theorem dX9_digest_156 : decode cX9_digest 156 = .ok (.lreturn, 1) := by decide +kernel
theorem dX9_mix_0 : decode cX9_mix 0 = .ok (.ldc2_w 276, 3) := by decide +kernel
theorem dX9_mix_3 : decode cX9_mix 3 = .ok (.lload_n 0, 1) := by decide +kernel
theorem dX9_mix_4 : decode cX9_mix 4 = .ok (.lmul, 1) := by decide +kernel
theorem dX9_mix_5 : decode cX9_mix 5 = .ok (.lload_n 2, 1) := by decide +kernel
theorem dX9_mix_6 : decode cX9_mix 6 = .ok (.ladd, 1) := by decide +kernel
theorem dX9_mix_7 : decode cX9_mix 7 = .ok (.lreturn, 1) := by decide +kernel
theorem dX9_mixValues_0 : decode cX9_mixValues 0 = .ok (.lload_n 1, 1) := by decide +kernel
theorem dX9_mixValues_1 : decode cX9_mixValues 1 = .ok (.lstore 4, 2) := by decide +kernel
theorem dX9_mixValues_3 : decode cX9_mixValues 3 = .ok (.iconst 0, 1) := by decide +kernel
theorem dX9_mixValues_4 : decode cX9_mixValues 4 = .ok (.istore 6, 2) := by decide +kernel
theorem dX9_mixValues_6 : decode cX9_mixValues 6 = .ok (.iload 6, 2) := by decide +kernel
theorem dX9_mixValues_8 : decode cX9_mixValues 8 = .ok (.bipush 12, 2) := by decide +kernel
theorem dX9_mixValues_10 : decode cX9_mixValues 10 = .ok (.if_icmp .ge 24, 3) := by decide +kernel
theorem dX9_mixValues_13 : decode cX9_mixValues 13 = .ok (.lload 4, 2) := by decide +kernel
theorem dX9_mixValues_15 : decode cX9_mixValues 15 = .ok (.aload_n 0, 1) := by decide +kernel
theorem dX9_mixValues_16 : decode cX9_mixValues 16 = .ok (.iload_n 3, 1) := by decide +kernel
theorem dX9_mixValues_17 : decode cX9_mixValues 17 = .ok (.iload 6, 2) := by decide +kernel
theorem dX9_mixValues_19 : decode cX9_mixValues 19 = .ok (.invokevirtual 278, 3) := by decide +kernel
theorem dX9_mixValues_22 : decode cX9_mixValues 22 = .ok (.i2l, 1) := by decide +kernel
theorem dX9_mixValues_23 : decode cX9_mixValues 23 = .ok (.invokestatic 252, 3) := by decide +kernel
theorem dX9_mixValues_26 : decode cX9_mixValues 26 = .ok (.lstore 4, 2) := by decide +kernel
theorem dX9_mixValues_28 : decode cX9_mixValues 28 = .ok (.iinc 6 1, 3) := by decide +kernel
theorem dX9_mixValues_31 : decode cX9_mixValues 31 = .ok (.goto (-25), 3) := by decide +kernel
theorem dX9_mixValues_34 : decode cX9_mixValues 34 = .ok (.lload 4, 2) := by decide +kernel
theorem dX9_mixValues_36 : decode cX9_mixValues 36 = .ok (.lreturn, 1) := by decide +kernel
theorem dX9_mixVoice_0 : decode cX9_mixVoice 0 = .ok (.lload_n 1, 1) := by decide +kernel
theorem dX9_mixVoice_1 : decode cX9_mixVoice 1 = .ok (.lstore 5, 2) := by decide +kernel
theorem dX9_mixVoice_3 : decode cX9_mixVoice 3 = .ok (.iconst 0, 1) := by decide +kernel
theorem dX9_mixVoice_4 : decode cX9_mixVoice 4 = .ok (.istore 7, 2) := by decide +kernel
theorem dX9_mixVoice_6 : decode cX9_mixVoice 6 = .ok (.iload 7, 2) := by decide +kernel
theorem dX9_mixVoice_8 : decode cX9_mixVoice 8 = .ok (.aload_n 0, 1) := by decide +kernel
theorem dX9_mixVoice_9 : decode cX9_mixVoice 9 = .ok (.getfield 10, 3) := by decide +kernel
theorem dX9_mixVoice_12 : decode cX9_mixVoice 12 = .ok (.iload_n 3, 1) := by decide +kernel
theorem dX9_mixVoice_13 : decode cX9_mixVoice 13 = .ok (.iload 4, 2) := by decide +kernel
theorem dX9_mixVoice_15 : decode cX9_mixVoice 15 = .ok (.invokevirtual 129, 3) := by decide +kernel
theorem dX9_mixVoice_18 : decode cX9_mixVoice 18 = .ok (.if_icmp .ge 44, 3) := by decide +kernel
theorem dX9_mixVoice_21 : decode cX9_mixVoice 21 = .ok (.iconst 0, 1) := by decide +kernel
theorem dX9_mixVoice_22 : decode cX9_mixVoice 22 = .ok (.istore 8, 2) := by decide +kernel
theorem dX9_mixVoice_24 : decode cX9_mixVoice 24 = .ok (.iload 8, 2) := by decide +kernel
theorem dX9_mixVoice_26 : decode cX9_mixVoice 26 = .ok (.bipush 10, 2) := by decide +kernel
theorem dX9_mixVoice_28 : decode cX9_mixVoice 28 = .ok (.if_icmp .ge 28, 3) := by decide +kernel
theorem dX9_mixVoice_31 : decode cX9_mixVoice 31 = .ok (.lload 5, 2) := by decide +kernel
theorem dX9_mixVoice_33 : decode cX9_mixVoice 33 = .ok (.aload_n 0, 1) := by decide +kernel
theorem dX9_mixVoice_34 : decode cX9_mixVoice 34 = .ok (.iload_n 3, 1) := by decide +kernel
theorem dX9_mixVoice_35 : decode cX9_mixVoice 35 = .ok (.iload 4, 2) := by decide +kernel
theorem dX9_mixVoice_37 : decode cX9_mixVoice 37 = .ok (.iload 7, 2) := by decide +kernel
theorem dX9_mixVoice_39 : decode cX9_mixVoice 39 = .ok (.iload 8, 2) := by decide +kernel
theorem dX9_mixVoice_41 : decode cX9_mixVoice 41 = .ok (.invokevirtual 281, 3) := by decide +kernel
theorem dX9_mixVoice_44 : decode cX9_mixVoice 44 = .ok (.i2l, 1) := by decide +kernel
theorem dX9_mixVoice_45 : decode cX9_mixVoice 45 = .ok (.invokestatic 252, 3) := by decide +kernel
theorem dX9_mixVoice_48 : decode cX9_mixVoice 48 = .ok (.lstore 5, 2) := by decide +kernel
theorem dX9_mixVoice_50 : decode cX9_mixVoice 50 = .ok (.iinc 8 1, 3) := by decide +kernel
theorem dX9_mixVoice_53 : decode cX9_mixVoice 53 = .ok (.goto (-29), 3) := by decide +kernel
theorem dX9_mixVoice_56 : decode cX9_mixVoice 56 = .ok (.iinc 7 1, 3) := by decide +kernel
theorem dX9_mixVoice_59 : decode cX9_mixVoice 59 = .ok (.goto (-53), 3) := by decide +kernel
theorem dX9_mixVoice_62 : decode cX9_mixVoice 62 = .ok (.lload 5, 2) := by decide +kernel
theorem dX9_mixVoice_64 : decode cX9_mixVoice 64 = .ok (.lreturn, 1) := by decide +kernel
theorem dX9_mixSentence_0 : decode cX9_mixSentence 0 = .ok (.lload_n 1, 1) := by decide +kernel
theorem dX9_mixSentence_1 : decode cX9_mixSentence 1 = .ok (.lstore 4, 2) := by decide +kernel
theorem dX9_mixSentence_3 : decode cX9_mixSentence 3 = .ok (.aload_n 0, 1) := by decide +kernel
theorem dX9_mixSentence_4 : decode cX9_mixSentence 4 = .ok (.getfield 33, 3) := by decide +kernel
theorem dX9_mixSentence_7 : decode cX9_mixSentence 7 = .ok (.aload_n 0, 1) := by decide +kernel
theorem dX9_mixSentence_8 : decode cX9_mixSentence 8 = .ok (.getfield 10, 3) := by decide +kernel
theorem dX9_mixSentence_11 : decode cX9_mixSentence 11 = .ok (.iload_n 3, 1) := by decide +kernel
theorem dX9_mixSentence_12 : decode cX9_mixSentence 12 = .ok (.invokevirtual 202, 3) := by decide +kernel
theorem dX9_mixSentence_15 : decode cX9_mixSentence 15 = .ok (.iconst 0, 1) := by decide +kernel
theorem dX9_mixSentence_16 : decode cX9_mixSentence 16 = .ok (.istore 6, 2) := by decide +kernel
theorem dX9_mixSentence_18 : decode cX9_mixSentence 18 = .ok (.iload 6, 2) := by decide +kernel
theorem dX9_mixSentence_20 : decode cX9_mixSentence 20 = .ok (.aload_n 0, 1) := by decide +kernel
theorem dX9_mixSentence_21 : decode cX9_mixSentence 21 = .ok (.getfield 33, 3) := by decide +kernel
theorem dX9_mixSentence_24 : decode cX9_mixSentence 24 = .ok (.invokevirtual 206, 3) := by decide +kernel
theorem dX9_mixSentence_27 : decode cX9_mixSentence 27 = .ok (.if_icmp .ge 26, 3) := by decide +kernel
theorem dX9_mixSentence_30 : decode cX9_mixSentence 30 = .ok (.lload 4, 2) := by decide +kernel
theorem dX9_mixSentence_32 : decode cX9_mixSentence 32 = .ok (.aload_n 0, 1) := by decide +kernel
theorem dX9_mixSentence_33 : decode cX9_mixSentence 33 = .ok (.getfield 33, 3) := by decide +kernel
theorem dX9_mixSentence_36 : decode cX9_mixSentence 36 = .ok (.iload 6, 2) := by decide +kernel
theorem dX9_mixSentence_38 : decode cX9_mixSentence 38 = .ok (.invokevirtual 207, 3) := by decide +kernel
theorem dX9_mixSentence_41 : decode cX9_mixSentence 41 = .ok (.i2l, 1) := by decide +kernel
theorem dX9_mixSentence_42 : decode cX9_mixSentence 42 = .ok (.invokestatic 252, 3) := by decide +kernel
theorem dX9_mixSentence_45 : decode cX9_mixSentence 45 = .ok (.lstore 4, 2) := by decide +kernel
theorem dX9_mixSentence_47 : decode cX9_mixSentence 47 = .ok (.iinc 6 1, 3) := by decide +kernel
theorem dX9_mixSentence_50 : decode cX9_mixSentence 50 = .ok (.goto (-32), 3) := by decide +kernel
theorem dX9_mixSentence_53 : decode cX9_mixSentence 53 = .ok (.lload 4, 2) := by decide +kernel
theorem dX9_mixSentence_55 : decode cX9_mixSentence 55 = .ok (.lreturn, 1) := by decide +kernel
theorem dX9_noteValue_0 : decode cX9_noteValue 0 = .ok (.aload_n 0, 1) := by decide +kernel
theorem dX9_noteValue_1 : decode cX9_noteValue 1 = .ok (.getfield 10, 3) := by decide +kernel
theorem dX9_noteValue_4 : decode cX9_noteValue 4 = .ok (.iload_n 1, 1) := by decide +kernel
theorem dX9_noteValue_5 : decode cX9_noteValue 5 = .ok (.iload_n 2, 1) := by decide +kernel
theorem dX9_noteValue_6 : decode cX9_noteValue 6 = .ok (.iload_n 3, 1) := by decide +kernel
theorem dX9_noteValue_7 : decode cX9_noteValue 7 = .ok (.invokevirtual 148, 3) := by decide +kernel
theorem dX9_noteValue_10 : decode cX9_noteValue 10 = .ok (.istore 5, 2) := by decide +kernel
theorem dX9_noteValue_12 : decode cX9_noteValue 12 = .ok (.iload 4, 2) := by decide +kernel
theorem dX9_noteValue_14 : decode cX9_noteValue 14 = .ok (.tableswitch 109 0 8 #[50, 56, 109, 62, 109, 109, 76, 87, 98], 50) := by decide +kernel
theorem dX9_noteValue_64 : decode cX9_noteValue 64 = .ok (.iload 5, 2) := by decide +kernel
theorem dX9_noteValue_66 : decode cX9_noteValue 66 = .ok (.invokestatic 284, 3) := by decide +kernel
theorem dX9_noteValue_69 : decode cX9_noteValue 69 = .ok (.ireturn, 1) := by decide +kernel
theorem dX9_noteValue_70 : decode cX9_noteValue 70 = .ok (.iload 5, 2) := by decide +kernel
theorem dX9_noteValue_72 : decode cX9_noteValue 72 = .ok (.invokestatic 287, 3) := by decide +kernel
theorem dX9_noteValue_75 : decode cX9_noteValue 75 = .ok (.ireturn, 1) := by decide +kernel
theorem dX9_noteValue_76 : decode cX9_noteValue 76 = .ok (.iload 5, 2) := by decide +kernel
theorem dX9_noteValue_78 : decode cX9_noteValue 78 = .ok (.invokestatic 290, 3) := by decide +kernel
theorem dX9_noteValue_81 : decode cX9_noteValue 81 = .ok (.ifCond .eq 7, 3) := by decide +kernel
theorem dX9_noteValue_84 : decode cX9_noteValue 84 = .ok (.iconst 1, 1) := by decide +kernel
theorem dX9_noteValue_85 : decode cX9_noteValue 85 = .ok (.goto 4, 3) := by decide +kernel
theorem dX9_noteValue_88 : decode cX9_noteValue 88 = .ok (.iconst 0, 1) := by decide +kernel
theorem dX9_noteValue_89 : decode cX9_noteValue 89 = .ok (.ireturn, 1) := by decide +kernel
theorem dX9_noteValue_90 : decode cX9_noteValue 90 = .ok (.aload_n 0, 1) := by decide +kernel
theorem dX9_noteValue_91 : decode cX9_noteValue 91 = .ok (.getfield 51, 3) := by decide +kernel
theorem dX9_noteValue_94 : decode cX9_noteValue 94 = .ok (.iload_n 1, 1) := by decide +kernel
theorem dX9_noteValue_95 : decode cX9_noteValue 95 = .ok (.iload_n 2, 1) := by decide +kernel
theorem dX9_noteValue_96 : decode cX9_noteValue 96 = .ok (.iload_n 3, 1) := by decide +kernel
theorem dX9_noteValue_97 : decode cX9_noteValue 97 = .ok (.invokevirtual 293, 3) := by decide +kernel
theorem dX9_noteValue_100 : decode cX9_noteValue 100 = .ok (.ireturn, 1) := by decide +kernel
theorem dX9_noteValue_101 : decode cX9_noteValue 101 = .ok (.aload_n 0, 1) := by decide +kernel
theorem dX9_noteValue_102 : decode cX9_noteValue 102 = .ok (.getfield 51, 3) := by decide +kernel
theorem dX9_noteValue_105 : decode cX9_noteValue 105 = .ok (.iload_n 1, 1) := by decide +kernel
theorem dX9_noteValue_106 : decode cX9_noteValue 106 = .ok (.iload_n 2, 1) := by decide +kernel
theorem dX9_noteValue_107 : decode cX9_noteValue 107 = .ok (.iload_n 3, 1) := by decide +kernel
theorem dX9_noteValue_108 : decode cX9_noteValue 108 = .ok (.invokevirtual 296, 3) := by decide +kernel
theorem dX9_noteValue_111 : decode cX9_noteValue 111 = .ok (.ireturn, 1) := by decide +kernel
theorem dX9_noteValue_112 : decode cX9_noteValue 112 = .ok (.aload_n 0, 1) := by decide +kernel
theorem dX9_noteValue_113 : decode cX9_noteValue 113 = .ok (.getfield 51, 3) := by decide +kernel
theorem dX9_noteValue_116 : decode cX9_noteValue 116 = .ok (.iload_n 1, 1) := by decide +kernel
theorem dX9_noteValue_117 : decode cX9_noteValue 117 = .ok (.iload_n 2, 1) := by decide +kernel
theorem dX9_noteValue_118 : decode cX9_noteValue 118 = .ok (.iload_n 3, 1) := by decide +kernel
theorem dX9_noteValue_119 : decode cX9_noteValue 119 = .ok (.invokevirtual 299, 3) := by decide +kernel
theorem dX9_noteValue_122 : decode cX9_noteValue 122 = .ok (.ireturn, 1) := by decide +kernel
theorem dX9_noteValue_123 : decode cX9_noteValue 123 = .ok (.aload_n 0, 1) := by decide +kernel
theorem dX9_noteValue_124 : decode cX9_noteValue 124 = .ok (.getfield 51, 3) := by decide +kernel
theorem dX9_noteValue_127 : decode cX9_noteValue 127 = .ok (.iload_n 1, 1) := by decide +kernel
theorem dX9_noteValue_128 : decode cX9_noteValue 128 = .ok (.iload_n 2, 1) := by decide +kernel
theorem dX9_noteValue_129 : decode cX9_noteValue 129 = .ok (.iload_n 3, 1) := by decide +kernel
theorem dX9_noteValue_130 : decode cX9_noteValue 130 = .ok (.invokevirtual 302, 3) := by decide +kernel
theorem dX9_noteValue_133 : decode cX9_noteValue 133 = .ok (.ifCond .eq 7, 3) := by decide +kernel
theorem dX9_noteValue_136 : decode cX9_noteValue 136 = .ok (.iconst 1, 1) := by decide +kernel
theorem dX9_noteValue_137 : decode cX9_noteValue 137 = .ok (.goto 4, 3) := by decide +kernel
theorem dX9_noteValue_140 : decode cX9_noteValue 140 = .ok (.iconst 0, 1) := by decide +kernel
theorem dX9_noteValue_141 : decode cX9_noteValue 141 = .ok (.ireturn, 1) := by decide +kernel
theorem dX9_eventsOfKind_0 : decode cX9_eventsOfKind 0 = .ok (.iconst 0, 1) := by decide +kernel
theorem dX9_eventsOfKind_1 : decode cX9_eventsOfKind 1 = .ok (.istore_n 2, 1) := by decide +kernel
theorem dX9_eventsOfKind_2 : decode cX9_eventsOfKind 2 = .ok (.iconst 0, 1) := by decide +kernel
theorem dX9_eventsOfKind_3 : decode cX9_eventsOfKind 3 = .ok (.istore_n 3, 1) := by decide +kernel
theorem dX9_eventsOfKind_4 : decode cX9_eventsOfKind 4 = .ok (.iload_n 3, 1) := by decide +kernel
theorem dX9_eventsOfKind_5 : decode cX9_eventsOfKind 5 = .ok (.aload_n 0, 1) := by decide +kernel
theorem dX9_eventsOfKind_6 : decode cX9_eventsOfKind 6 = .ok (.getfield 10, 3) := by decide +kernel
theorem dX9_eventsOfKind_9 : decode cX9_eventsOfKind 9 = .ok (.invokevirtual 82, 3) := by decide +kernel
theorem dX9_eventsOfKind_12 : decode cX9_eventsOfKind 12 = .ok (.if_icmp .ge 69, 3) := by decide +kernel
theorem dX9_eventsOfKind_15 : decode cX9_eventsOfKind 15 = .ok (.iconst 0, 1) := by decide +kernel
theorem dX9_eventsOfKind_16 : decode cX9_eventsOfKind 16 = .ok (.istore 4, 2) := by decide +kernel
theorem dX9_eventsOfKind_18 : decode cX9_eventsOfKind 18 = .ok (.iload 4, 2) := by decide +kernel
theorem dX9_eventsOfKind_20 : decode cX9_eventsOfKind 20 = .ok (.iconst 2, 1) := by decide +kernel
theorem dX9_eventsOfKind_21 : decode cX9_eventsOfKind 21 = .ok (.if_icmp .ge 54, 3) := by decide +kernel
theorem dX9_eventsOfKind_24 : decode cX9_eventsOfKind 24 = .ok (.iconst 0, 1) := by decide +kernel
theorem dX9_eventsOfKind_25 : decode cX9_eventsOfKind 25 = .ok (.istore 5, 2) := by decide +kernel
theorem dX9_eventsOfKind_27 : decode cX9_eventsOfKind 27 = .ok (.iload 5, 2) := by decide +kernel
theorem dX9_eventsOfKind_29 : decode cX9_eventsOfKind 29 = .ok (.aload_n 0, 1) := by decide +kernel
theorem dX9_eventsOfKind_30 : decode cX9_eventsOfKind 30 = .ok (.getfield 10, 3) := by decide +kernel
theorem dX9_eventsOfKind_33 : decode cX9_eventsOfKind 33 = .ok (.iload_n 3, 1) := by decide +kernel
theorem dX9_eventsOfKind_34 : decode cX9_eventsOfKind 34 = .ok (.iload 4, 2) := by decide +kernel
theorem dX9_eventsOfKind_36 : decode cX9_eventsOfKind 36 = .ok (.invokevirtual 129, 3) := by decide +kernel
theorem dX9_eventsOfKind_39 : decode cX9_eventsOfKind 39 = .ok (.if_icmp .ge 30, 3) := by decide +kernel
theorem dX9_eventsOfKind_42 : decode cX9_eventsOfKind 42 = .ok (.iload_n 2, 1) := by decide +kernel
theorem dX9_eventsOfKind_43 : decode cX9_eventsOfKind 43 = .ok (.aload_n 0, 1) := by decide +kernel
theorem dX9_eventsOfKind_44 : decode cX9_eventsOfKind 44 = .ok (.iload_n 3, 1) := by decide +kernel
theorem dX9_eventsOfKind_45 : decode cX9_eventsOfKind 45 = .ok (.iload 4, 2) := by decide +kernel
theorem dX9_eventsOfKind_47 : decode cX9_eventsOfKind 47 = .ok (.iload 5, 2) := by decide +kernel
theorem dX9_eventsOfKind_49 : decode cX9_eventsOfKind 49 = .ok (.iload_n 1, 1) := by decide +kernel
theorem dX9_eventsOfKind_50 : decode cX9_eventsOfKind 50 = .ok (.invokevirtual 306, 3) := by decide +kernel
theorem dX9_eventsOfKind_53 : decode cX9_eventsOfKind 53 = .ok (.ifCond .eq 7, 3) := by decide +kernel
theorem dX9_eventsOfKind_56 : decode cX9_eventsOfKind 56 = .ok (.iconst 1, 1) := by decide +kernel
theorem dX9_eventsOfKind_57 : decode cX9_eventsOfKind 57 = .ok (.goto 4, 3) := by decide +kernel
theorem dX9_eventsOfKind_60 : decode cX9_eventsOfKind 60 = .ok (.iconst 0, 1) := by decide +kernel
theorem dX9_eventsOfKind_61 : decode cX9_eventsOfKind 61 = .ok (.iadd, 1) := by decide +kernel
theorem dX9_eventsOfKind_62 : decode cX9_eventsOfKind 62 = .ok (.istore_n 2, 1) := by decide +kernel
theorem dX9_eventsOfKind_63 : decode cX9_eventsOfKind 63 = .ok (.iinc 5 1, 3) := by decide +kernel
theorem dX9_eventsOfKind_66 : decode cX9_eventsOfKind 66 = .ok (.goto (-39), 3) := by decide +kernel
theorem dX9_eventsOfKind_69 : decode cX9_eventsOfKind 69 = .ok (.iinc 4 1, 3) := by decide +kernel
theorem dX9_eventsOfKind_72 : decode cX9_eventsOfKind 72 = .ok (.goto (-54), 3) := by decide +kernel
theorem dX9_eventsOfKind_75 : decode cX9_eventsOfKind 75 = .ok (.iinc 3 1, 3) := by decide +kernel
theorem dX9_eventsOfKind_78 : decode cX9_eventsOfKind 78 = .ok (.goto (-74), 3) := by decide +kernel
theorem dX9_eventsOfKind_81 : decode cX9_eventsOfKind 81 = .ok (.iload_n 2, 1) := by decide +kernel
theorem dX9_eventsOfKind_82 : decode cX9_eventsOfKind 82 = .ok (.ireturn, 1) := by decide +kernel
theorem dX9_isOfKind_0 : decode cX9_isOfKind 0 = .ok (.aload_n 0, 1) := by decide +kernel
theorem dX9_isOfKind_1 : decode cX9_isOfKind 1 = .ok (.getfield 10, 3) := by decide +kernel
theorem dX9_isOfKind_4 : decode cX9_isOfKind 4 = .ok (.iload_n 1, 1) := by decide +kernel
theorem dX9_isOfKind_5 : decode cX9_isOfKind 5 = .ok (.iload_n 2, 1) := by decide +kernel
theorem dX9_isOfKind_6 : decode cX9_isOfKind 6 = .ok (.iload_n 3, 1) := by decide +kernel
theorem dX9_isOfKind_7 : decode cX9_isOfKind 7 = .ok (.invokevirtual 148, 3) := by decide +kernel
theorem dX9_isOfKind_10 : decode cX9_isOfKind 10 = .ok (.istore 5, 2) := by decide +kernel
theorem dX9_isOfKind_12 : decode cX9_isOfKind 12 = .ok (.iload 4, 2) := by decide +kernel
theorem dX9_isOfKind_14 : decode cX9_isOfKind 14 = .ok (.tableswitch 40 1 3 #[26, 28, 34], 26) := by decide +kernel
theorem dX9_isOfKind_40 : decode cX9_isOfKind 40 = .ok (.iconst 1, 1) := by decide +kernel
theorem dX9_isOfKind_41 : decode cX9_isOfKind 41 = .ok (.ireturn, 1) := by decide +kernel
theorem dX9_isOfKind_42 : decode cX9_isOfKind 42 = .ok (.iload 5, 2) := by decide +kernel
theorem dX9_isOfKind_44 : decode cX9_isOfKind 44 = .ok (.invokestatic 161, 3) := by decide +kernel
theorem dX9_isOfKind_47 : decode cX9_isOfKind 47 = .ok (.ireturn, 1) := by decide +kernel
theorem dX9_isOfKind_48 : decode cX9_isOfKind 48 = .ok (.iload 5, 2) := by decide +kernel
theorem dX9_isOfKind_50 : decode cX9_isOfKind 50 = .ok (.invokestatic 290, 3) := by decide +kernel
theorem dX9_isOfKind_53 : decode cX9_isOfKind 53 = .ok (.ireturn, 1) := by decide +kernel
theorem dX9_isOfKind_54 : decode cX9_isOfKind 54 = .ok (.aload_n 0, 1) := by decide +kernel
theorem dX9_isOfKind_55 : decode cX9_isOfKind 55 = .ok (.getfield 51, 3) := by decide +kernel
theorem dX9_isOfKind_58 : decode cX9_isOfKind 58 = .ok (.iload_n 1, 1) := by decide +kernel
theorem dX9_isOfKind_59 : decode cX9_isOfKind 59 = .ok (.iload_n 2, 1) := by decide +kernel
theorem dX9_isOfKind_60 : decode cX9_isOfKind 60 = .ok (.iload_n 3, 1) := by decide +kernel
theorem dX9_isOfKind_61 : decode cX9_isOfKind 61 = .ok (.invokevirtual 302, 3) := by decide +kernel
theorem dX9_isOfKind_64 : decode cX9_isOfKind 64 = .ok (.ireturn, 1) := by decide +kernel
theorem dX9_settle_0 : decode cX9_settle 0 = .ok (.aload_n 0, 1) := by decide +kernel
theorem dX9_settle_1 : decode cX9_settle 1 = .ok (.getfield 51, 3) := by decide +kernel
theorem dX9_settle_4 : decode cX9_settle 4 = .ok (.invokevirtual 310, 3) := by decide +kernel
theorem dX9_settle_7 : decode cX9_settle 7 = .ok (.aload_n 0, 1) := by decide +kernel
theorem dX9_settle_8 : decode cX9_settle 8 = .ok (.getfield 51, 3) := by decide +kernel
theorem dX9_settle_11 : decode cX9_settle 11 = .ok (.invokevirtual 313, 3) := by decide +kernel
theorem dX9_settle_14 : decode cX9_settle 14 = .ok (.aload_n 0, 1) := by decide +kernel
theorem dX9_settle_15 : decode cX9_settle 15 = .ok (.getfield 58, 3) := by decide +kernel
theorem dX9_settle_18 : decode cX9_settle 18 = .ok (.aload_n 0, 1) := by decide +kernel
theorem dX9_settle_19 : decode cX9_settle 19 = .ok (.getfield 10, 3) := by decide +kernel
theorem dX9_settle_22 : decode cX9_settle 22 = .ok (.invokevirtual 316, 3) := by decide +kernel
theorem dX9_settle_25 : decode cX9_settle 25 = .ok (.return_, 1) := by decide +kernel
theorem dX9_requireMeasure_0 : decode cX9_requireMeasure 0 = .ok (.aload_n 0, 1) := by decide +kernel
theorem dX9_requireMeasure_1 : decode cX9_requireMeasure 1 = .ok (.getfield 10, 3) := by decide +kernel
theorem dX9_requireMeasure_4 : decode cX9_requireMeasure 4 = .ok (.iload_n 1, 1) := by decide +kernel
theorem dX9_requireMeasure_5 : decode cX9_requireMeasure 5 = .ok (.invokevirtual 319, 3) := by decide +kernel
theorem dX9_requireMeasure_8 : decode cX9_requireMeasure 8 = .ok (.ifCond .ne 14, 3) := by decide +kernel
theorem dX9_requireMeasure_11 : decode cX9_requireMeasure 11 = .ok (.new 322, 3) := by decide +kernel
theorem dX9_requireMeasure_14 : decode cX9_requireMeasure 14 = .ok (.dup, 1) := by decide +kernel
theorem dX9_requireMeasure_15 : decode cX9_requireMeasure 15 = .ok (.ldc_w 324, 3) := by decide +kernel
theorem dX9_requireMeasure_18 : decode cX9_requireMeasure 18 = .ok (.invokespecial 326, 3) := by decide +kernel
theorem dX9_requireMeasure_21 : decode cX9_requireMeasure 21 = .ok (.athrow, 1) := by decide +kernel
theorem dX9_requireMeasure_22 : decode cX9_requireMeasure 22 = .ok (.return_, 1) := by decide +kernel
theorem dX9_requireVoice_0 : decode cX9_requireVoice 0 = .ok (.aload_n 0, 1) := by decide +kernel
theorem dX9_requireVoice_1 : decode cX9_requireVoice 1 = .ok (.getfield 10, 3) := by decide +kernel
theorem dX9_requireVoice_4 : decode cX9_requireVoice 4 = .ok (.iload_n 1, 1) := by decide +kernel
theorem dX9_requireVoice_5 : decode cX9_requireVoice 5 = .ok (.iload_n 2, 1) := by decide +kernel
theorem dX9_requireVoice_6 : decode cX9_requireVoice 6 = .ok (.invokevirtual 327, 3) := by decide +kernel
theorem dX9_requireVoice_9 : decode cX9_requireVoice 9 = .ok (.ifCond .ne 14, 3) := by decide +kernel
theorem dX9_requireVoice_12 : decode cX9_requireVoice 12 = .ok (.new 322, 3) := by decide +kernel
theorem dX9_requireVoice_15 : decode cX9_requireVoice 15 = .ok (.dup, 1) := by decide +kernel
theorem dX9_requireVoice_16 : decode cX9_requireVoice 16 = .ok (.ldc_w 330, 3) := by decide +kernel
theorem dX9_requireVoice_19 : decode cX9_requireVoice 19 = .ok (.invokespecial 326, 3) := by decide +kernel
theorem dX9_requireVoice_22 : decode cX9_requireVoice 22 = .ok (.athrow, 1) := by decide +kernel
theorem dX9_requireVoice_23 : decode cX9_requireVoice 23 = .ok (.return_, 1) := by decide +kernel
theorem dX9_requireEvent_0 : decode cX9_requireEvent 0 = .ok (.aload_n 0, 1) := by decide +kernel
theorem dX9_requireEvent_1 : decode cX9_requireEvent 1 = .ok (.getfield 10, 3) := by decide +kernel
theorem dX9_requireEvent_4 : decode cX9_requireEvent 4 = .ok (.iload_n 1, 1) := by decide +kernel
theorem dX9_requireEvent_5 : decode cX9_requireEvent 5 = .ok (.iload_n 2, 1) := by decide +kernel
theorem dX9_requireEvent_6 : decode cX9_requireEvent 6 = .ok (.iload_n 3, 1) := by decide +kernel
theorem dX9_requireEvent_7 : decode cX9_requireEvent 7 = .ok (.invokevirtual 332, 3) := by decide +kernel
theorem dX9_requireEvent_10 : decode cX9_requireEvent 10 = .ok (.ifCond .ne 14, 3) := by decide +kernel
theorem dX9_requireEvent_13 : decode cX9_requireEvent 13 = .ok (.new 322, 3) := by decide +kernel
theorem dX9_requireEvent_16 : decode cX9_requireEvent 16 = .ok (.dup, 1) := by decide +kernel
theorem dX9_requireEvent_17 : decode cX9_requireEvent 17 = .ok (.ldc_w 335, 3) := by decide +kernel
theorem dX9_requireEvent_20 : decode cX9_requireEvent 20 = .ok (.invokespecial 326, 3) := by decide +kernel
theorem dX9_requireEvent_23 : decode cX9_requireEvent 23 = .ok (.athrow, 1) := by decide +kernel
theorem dX9_requireEvent_24 : decode cX9_requireEvent 24 = .ok (.return_, 1) := by decide +kernel
theorem dX9_requireRoom_0 : decode cX9_requireRoom 0 = .ok (.aload_n 0, 1) := by decide +kernel
theorem dX9_requireRoom_1 : decode cX9_requireRoom 1 = .ok (.getfield 10, 3) := by decide +kernel
theorem dX9_requireRoom_4 : decode cX9_requireRoom 4 = .ok (.iload_n 1, 1) := by decide +kernel
theorem dX9_requireRoom_5 : decode cX9_requireRoom 5 = .ok (.iload_n 2, 1) := by decide +kernel
theorem dX9_requireRoom_6 : decode cX9_requireRoom 6 = .ok (.invokevirtual 129, 3) := by decide +kernel
theorem dX9_requireRoom_9 : decode cX9_requireRoom 9 = .ok (.bipush 24, 2) := by decide +kernel
theorem dX9_requireRoom_11 : decode cX9_requireRoom 11 = .ok (.if_icmp .lt 14, 3) := by decide +kernel
theorem dX9_requireRoom_14 : decode cX9_requireRoom 14 = .ok (.new 66, 3) := by decide +kernel
theorem dX9_requireRoom_17 : decode cX9_requireRoom 17 = .ok (.dup, 1) := by decide +kernel
theorem dX9_requireRoom_18 : decode cX9_requireRoom 18 = .ok (.ldc_w 337, 3) := by decide +kernel
theorem dX9_requireRoom_21 : decode cX9_requireRoom 21 = .ok (.invokespecial 70, 3) := by decide +kernel
theorem dX9_requireRoom_24 : decode cX9_requireRoom 24 = .ok (.athrow, 1) := by decide +kernel
theorem dX9_requireRoom_25 : decode cX9_requireRoom 25 = .ok (.return_, 1) := by decide +kernel
theorem dX9_requireRange_0 : decode cX9_requireRange 0 = .ok (.iload_n 0, 1) := by decide +kernel
theorem dX9_requireRange_1 : decode cX9_requireRange 1 = .ok (.iload_n 1, 1) := by decide +kernel
theorem dX9_requireRange_2 : decode cX9_requireRange 2 = .ok (.if_icmp .lt 8, 3) := by decide +kernel
theorem dX9_requireRange_5 : decode cX9_requireRange 5 = .ok (.iload_n 0, 1) := by decide +kernel
theorem dX9_requireRange_6 : decode cX9_requireRange 6 = .ok (.iload_n 2, 1) := by decide +kernel
theorem dX9_requireRange_7 : decode cX9_requireRange 7 = .ok (.if_icmp .le 14, 3) := by decide +kernel
theorem dX9_requireRange_10 : decode cX9_requireRange 10 = .ok (.new 97, 3) := by decide +kernel
theorem dX9_requireRange_13 : decode cX9_requireRange 13 = .ok (.dup, 1) := by decide +kernel
theorem dX9_requireRange_14 : decode cX9_requireRange 14 = .ok (.ldc_w 339, 3) := by decide +kernel
theorem dX9_requireRange_17 : decode cX9_requireRange 17 = .ok (.invokespecial 101, 3) := by decide +kernel
theorem dX9_requireRange_20 : decode cX9_requireRange 20 = .ok (.athrow, 1) := by decide +kernel
theorem dX9_requireRange_21 : decode cX9_requireRange 21 = .ok (.return_, 1) := by decide +kernel
theorem dX9_requireNotNegative_0 : decode cX9_requireNotNegative 0 = .ok (.iload_n 0, 1) := by decide +kernel
theorem dX9_requireNotNegative_1 : decode cX9_requireNotNegative 1 = .ok (.ifCond .ge 14, 3) := by decide +kernel
theorem dX9_requireNotNegative_4 : decode cX9_requireNotNegative 4 = .ok (.new 97, 3) := by decide +kernel
theorem dX9_requireNotNegative_7 : decode cX9_requireNotNegative 7 = .ok (.dup, 1) := by decide +kernel
theorem dX9_requireNotNegative_8 : decode cX9_requireNotNegative 8 = .ok (.ldc_w 341, 3) := by decide +kernel
theorem dX9_requireNotNegative_11 : decode cX9_requireNotNegative 11 = .ok (.invokespecial 101, 3) := by decide +kernel
theorem dX9_requireNotNegative_14 : decode cX9_requireNotNegative 14 = .ok (.athrow, 1) := by decide +kernel
theorem dX9_requireNotNegative_15 : decode cX9_requireNotNegative 15 = .ok (.return_, 1) := by decide +kernel
theorem dX10_init_0 : decode cX10_init 0 = .ok (.aload_n 0, 1) := by decide +kernel
theorem dX10_init_1 : decode cX10_init 1 = .ok (.invokespecial 1, 3) := by decide +kernel
theorem dX10_init_4 : decode cX10_init 4 = .ok (.aload_n 0, 1) := by decide +kernel
theorem dX10_init_5 : decode cX10_init 5 = .ok (.sipush 3217, 3) := by decide +kernel
theorem dX10_init_8 : decode cX10_init 8 = .ok (.newarray .int, 2) := by decide +kernel
theorem dX10_init_10 : decode cX10_init 10 = .ok (.putfield 7, 3) := by decide +kernel
theorem dX10_init_13 : decode cX10_init 13 = .ok (.aload_n 0, 1) := by decide +kernel
theorem dX10_init_14 : decode cX10_init 14 = .ok (.sipush 12868, 3) := by decide +kernel
theorem dX10_init_17 : decode cX10_init 17 = .ok (.newarray .int, 2) := by decide +kernel
theorem dX10_init_19 : decode cX10_init 19 = .ok (.putfield 13, 3) := by decide +kernel
theorem dX10_init_22 : decode cX10_init 22 = .ok (.aload_n 0, 1) := by decide +kernel
theorem dX10_init_23 : decode cX10_init 23 = .ok (.sipush 600, 3) := by decide +kernel
theorem dX10_init_26 : decode cX10_init 26 = .ok (.newarray .int, 2) := by decide +kernel
theorem dX10_init_28 : decode cX10_init 28 = .ok (.putfield 16, 3) := by decide +kernel
theorem dX10_init_31 : decode cX10_init 31 = .ok (.aload_n 0, 1) := by decide +kernel
theorem dX10_init_32 : decode cX10_init 32 = .ok (.sipush 200, 3) := by decide +kernel
theorem dX10_init_35 : decode cX10_init 35 = .ok (.newarray .int, 2) := by decide +kernel
theorem dX10_init_37 : decode cX10_init 37 = .ok (.putfield 19, 3) := by decide +kernel
theorem dX10_init_40 : decode cX10_init 40 = .ok (.aload_n 0, 1) := by decide +kernel
theorem dX10_init_41 : decode cX10_init 41 = .ok (.bipush 118, 2) := by decide +kernel
theorem dX10_init_43 : decode cX10_init 43 = .ok (.newarray .int, 2) := by decide +kernel
theorem dX10_init_45 : decode cX10_init 45 = .ok (.dup, 1) := by decide +kernel
theorem dX10_init_46 : decode cX10_init 46 = .ok (.iconst 0, 1) := by decide +kernel
theorem dX10_init_47 : decode cX10_init 47 = .ok (.bipush 98, 2) := by decide +kernel
theorem dX10_init_49 : decode cX10_init 49 = .ok (.iastore, 1) := by decide +kernel
theorem dX10_init_50 : decode cX10_init 50 = .ok (.dup, 1) := by decide +kernel
theorem dX10_init_51 : decode cX10_init 51 = .ok (.iconst 1, 1) := by decide +kernel
theorem dX10_init_52 : decode cX10_init 52 = .ok (.bipush 97, 2) := by decide +kernel
theorem dX10_init_54 : decode cX10_init 54 = .ok (.iastore, 1) := by decide +kernel
theorem dX10_init_55 : decode cX10_init 55 = .ok (.dup, 1) := by decide +kernel
theorem dX10_init_56 : decode cX10_init 56 = .ok (.iconst 2, 1) := by decide +kernel
theorem dX10_init_57 : decode cX10_init 57 = .ok (.bipush 114, 2) := by decide +kernel
theorem dX10_init_59 : decode cX10_init 59 = .ok (.iastore, 1) := by decide +kernel
theorem dX10_init_60 : decode cX10_init 60 = .ok (.dup, 1) := by decide +kernel
theorem dX10_init_61 : decode cX10_init 61 = .ok (.iconst 3, 1) := by decide +kernel
theorem dX10_init_62 : decode cX10_init 62 = .ok (.bipush 32, 2) := by decide +kernel
theorem dX10_init_64 : decode cX10_init 64 = .ok (.iastore, 1) := by decide +kernel
theorem dX10_init_65 : decode cX10_init 65 = .ok (.dup, 1) := by decide +kernel
theorem dX10_init_66 : decode cX10_init 66 = .ok (.iconst 4, 1) := by decide +kernel
theorem dX10_init_67 : decode cX10_init 67 = .ok (.bipush 111, 2) := by decide +kernel
theorem dX10_init_69 : decode cX10_init 69 = .ok (.iastore, 1) := by decide +kernel
theorem dX10_init_70 : decode cX10_init 70 = .ok (.dup, 1) := by decide +kernel
theorem dX10_init_71 : decode cX10_init 71 = .ok (.iconst 5, 1) := by decide +kernel
theorem dX10_init_72 : decode cX10_init 72 = .ok (.bipush 112, 2) := by decide +kernel
theorem dX10_init_74 : decode cX10_init 74 = .ok (.iastore, 1) := by decide +kernel
theorem dX10_init_75 : decode cX10_init 75 = .ok (.dup, 1) := by decide +kernel
theorem dX10_init_76 : decode cX10_init 76 = .ok (.bipush 6, 2) := by decide +kernel
theorem dX10_init_78 : decode cX10_init 78 = .ok (.bipush 101, 2) := by decide +kernel
theorem dX10_init_80 : decode cX10_init 80 = .ok (.iastore, 1) := by decide +kernel
theorem dX10_init_81 : decode cX10_init 81 = .ok (.dup, 1) := by decide +kernel
theorem dX10_init_82 : decode cX10_init 82 = .ok (.bipush 7, 2) := by decide +kernel
theorem dX10_init_84 : decode cX10_init 84 = .ok (.bipush 110, 2) := by decide +kernel
theorem dX10_init_86 : decode cX10_init 86 = .ok (.iastore, 1) := by decide +kernel
theorem dX10_init_87 : decode cX10_init 87 = .ok (.dup, 1) := by decide +kernel
theorem dX10_init_88 : decode cX10_init 88 = .ok (.bipush 8, 2) := by decide +kernel
theorem dX10_init_90 : decode cX10_init 90 = .ok (.bipush 32, 2) := by decide +kernel
theorem dX10_init_92 : decode cX10_init 92 = .ok (.iastore, 1) := by decide +kernel
theorem dX10_init_93 : decode cX10_init 93 = .ok (.dup, 1) := by decide +kernel
theorem dX10_init_94 : decode cX10_init 94 = .ok (.bipush 9, 2) := by decide +kernel
theorem dX10_init_96 : decode cX10_init 96 = .ok (.bipush 101, 2) := by decide +kernel
theorem dX10_init_98 : decode cX10_init 98 = .ok (.iastore, 1) := by decide +kernel
theorem dX10_init_99 : decode cX10_init 99 = .ok (.dup, 1) := by decide +kernel
theorem dX10_init_100 : decode cX10_init 100 = .ok (.bipush 10, 2) := by decide +kernel
theorem dX10_init_102 : decode cX10_init 102 = .ok (.bipush 110, 2) := by decide +kernel
theorem dX10_init_104 : decode cX10_init 104 = .ok (.iastore, 1) := by decide +kernel
theorem dX10_init_105 : decode cX10_init 105 = .ok (.dup, 1) := by decide +kernel
theorem dX10_init_106 : decode cX10_init 106 = .ok (.bipush 11, 2) := by decide +kernel
theorem dX10_init_108 : decode cX10_init 108 = .ok (.bipush 100, 2) := by decide +kernel
theorem dX10_init_110 : decode cX10_init 110 = .ok (.iastore, 1) := by decide +kernel
theorem dX10_init_111 : decode cX10_init 111 = .ok (.dup, 1) := by decide +kernel
theorem dX10_init_112 : decode cX10_init 112 = .ok (.bipush 12, 2) := by decide +kernel
theorem dX10_init_114 : decode cX10_init 114 = .ok (.bipush 105, 2) := by decide +kernel
theorem dX10_init_116 : decode cX10_init 116 = .ok (.iastore, 1) := by decide +kernel
theorem dX10_init_117 : decode cX10_init 117 = .ok (.dup, 1) := by decide +kernel
theorem dX10_init_118 : decode cX10_init 118 = .ok (.bipush 13, 2) := by decide +kernel
theorem dX10_init_120 : decode cX10_init 120 = .ok (.bipush 110, 2) := by decide +kernel
theorem dX10_init_122 : decode cX10_init 122 = .ok (.iastore, 1) := by decide +kernel
theorem dX10_init_123 : decode cX10_init 123 = .ok (.dup, 1) := by decide +kernel
theorem dX10_init_124 : decode cX10_init 124 = .ok (.bipush 14, 2) := by decide +kernel
theorem dX10_init_126 : decode cX10_init 126 = .ok (.bipush 103, 2) := by decide +kernel
theorem dX10_init_128 : decode cX10_init 128 = .ok (.iastore, 1) := by decide +kernel
theorem dX10_init_129 : decode cX10_init 129 = .ok (.dup, 1) := by decide +kernel
theorem dX10_init_130 : decode cX10_init 130 = .ok (.bipush 15, 2) := by decide +kernel
theorem dX10_init_132 : decode cX10_init 132 = .ok (.bipush 32, 2) := by decide +kernel
theorem dX10_init_134 : decode cX10_init 134 = .ok (.iastore, 1) := by decide +kernel
theorem dX10_init_135 : decode cX10_init 135 = .ok (.dup, 1) := by decide +kernel
theorem dX10_init_136 : decode cX10_init 136 = .ok (.bipush 16, 2) := by decide +kernel
theorem dX10_init_138 : decode cX10_init 138 = .ok (.bipush 107, 2) := by decide +kernel
theorem dX10_init_140 : decode cX10_init 140 = .ok (.iastore, 1) := by decide +kernel
theorem dX10_init_141 : decode cX10_init 141 = .ok (.dup, 1) := by decide +kernel
theorem dX10_init_142 : decode cX10_init 142 = .ok (.bipush 17, 2) := by decide +kernel
theorem dX10_init_144 : decode cX10_init 144 = .ok (.bipush 101, 2) := by decide +kernel
theorem dX10_init_146 : decode cX10_init 146 = .ok (.iastore, 1) := by decide +kernel
theorem dX10_init_147 : decode cX10_init 147 = .ok (.dup, 1) := by decide +kernel
theorem dX10_init_148 : decode cX10_init 148 = .ok (.bipush 18, 2) := by decide +kernel
theorem dX10_init_150 : decode cX10_init 150 = .ok (.bipush 121, 2) := by decide +kernel
theorem dX10_init_152 : decode cX10_init 152 = .ok (.iastore, 1) := by decide +kernel
theorem dX10_init_153 : decode cX10_init 153 = .ok (.dup, 1) := by decide +kernel
theorem dX10_init_154 : decode cX10_init 154 = .ok (.bipush 19, 2) := by decide +kernel
theorem dX10_init_156 : decode cX10_init 156 = .ok (.bipush 32, 2) := by decide +kernel
theorem dX10_init_158 : decode cX10_init 158 = .ok (.iastore, 1) := by decide +kernel
theorem dX10_init_159 : decode cX10_init 159 = .ok (.dup, 1) := by decide +kernel
theorem dX10_init_160 : decode cX10_init 160 = .ok (.bipush 20, 2) := by decide +kernel
theorem dX10_init_162 : decode cX10_init 162 = .ok (.bipush 112, 2) := by decide +kernel
theorem dX10_init_164 : decode cX10_init 164 = .ok (.iastore, 1) := by decide +kernel
theorem dX10_init_165 : decode cX10_init 165 = .ok (.dup, 1) := by decide +kernel
theorem dX10_init_166 : decode cX10_init 166 = .ok (.bipush 21, 2) := by decide +kernel
theorem dX10_init_168 : decode cX10_init 168 = .ok (.bipush 108, 2) := by decide +kernel
theorem dX10_init_170 : decode cX10_init 170 = .ok (.iastore, 1) := by decide +kernel
theorem dX10_init_171 : decode cX10_init 171 = .ok (.dup, 1) := by decide +kernel
theorem dX10_init_172 : decode cX10_init 172 = .ok (.bipush 22, 2) := by decide +kernel
theorem dX10_init_174 : decode cX10_init 174 = .ok (.bipush 97, 2) := by decide +kernel
theorem dX10_init_176 : decode cX10_init 176 = .ok (.iastore, 1) := by decide +kernel
theorem dX10_init_177 : decode cX10_init 177 = .ok (.dup, 1) := by decide +kernel
theorem dX10_init_178 : decode cX10_init 178 = .ok (.bipush 23, 2) := by decide +kernel
theorem dX10_init_180 : decode cX10_init 180 = .ok (.bipush 105, 2) := by decide +kernel
theorem dX10_init_182 : decode cX10_init 182 = .ok (.iastore, 1) := by decide +kernel
theorem dX10_init_183 : decode cX10_init 183 = .ok (.dup, 1) := by decide +kernel
theorem dX10_init_184 : decode cX10_init 184 = .ok (.bipush 24, 2) := by decide +kernel
theorem dX10_init_186 : decode cX10_init 186 = .ok (.bipush 110, 2) := by decide +kernel
theorem dX10_init_188 : decode cX10_init 188 = .ok (.iastore, 1) := by decide +kernel
theorem dX10_init_189 : decode cX10_init 189 = .ok (.dup, 1) := by decide +kernel
theorem dX10_init_190 : decode cX10_init 190 = .ok (.bipush 25, 2) := by decide +kernel
theorem dX10_init_192 : decode cX10_init 192 = .ok (.bipush 32, 2) := by decide +kernel
theorem dX10_init_194 : decode cX10_init 194 = .ok (.iastore, 1) := by decide +kernel
theorem dX10_init_195 : decode cX10_init 195 = .ok (.dup, 1) := by decide +kernel
theorem dX10_init_196 : decode cX10_init 196 = .ok (.bipush 26, 2) := by decide +kernel
theorem dX10_init_198 : decode cX10_init 198 = .ok (.bipush 115, 2) := by decide +kernel
theorem dX10_init_200 : decode cX10_init 200 = .ok (.iastore, 1) := by decide +kernel
theorem dX10_init_201 : decode cX10_init 201 = .ok (.dup, 1) := by decide +kernel
theorem dX10_init_202 : decode cX10_init 202 = .ok (.bipush 27, 2) := by decide +kernel
theorem dX10_init_204 : decode cX10_init 204 = .ok (.bipush 104, 2) := by decide +kernel
theorem dX10_init_206 : decode cX10_init 206 = .ok (.iastore, 1) := by decide +kernel
theorem dX10_init_207 : decode cX10_init 207 = .ok (.dup, 1) := by decide +kernel
theorem dX10_init_208 : decode cX10_init 208 = .ok (.bipush 28, 2) := by decide +kernel
theorem dX10_init_210 : decode cX10_init 210 = .ok (.bipush 97, 2) := by decide +kernel
theorem dX10_init_212 : decode cX10_init 212 = .ok (.iastore, 1) := by decide +kernel
theorem dX10_init_213 : decode cX10_init 213 = .ok (.dup, 1) := by decide +kernel
theorem dX10_init_214 : decode cX10_init 214 = .ok (.bipush 29, 2) := by decide +kernel
theorem dX10_init_216 : decode cX10_init 216 = .ok (.bipush 114, 2) := by decide +kernel
theorem dX10_init_218 : decode cX10_init 218 = .ok (.iastore, 1) := by decide +kernel
theorem dX10_init_219 : decode cX10_init 219 = .ok (.dup, 1) := by decide +kernel
theorem dX10_init_220 : decode cX10_init 220 = .ok (.bipush 30, 2) := by decide +kernel
theorem dX10_init_222 : decode cX10_init 222 = .ok (.bipush 112, 2) := by decide +kernel
theorem dX10_init_224 : decode cX10_init 224 = .ok (.iastore, 1) := by decide +kernel
theorem dX10_init_225 : decode cX10_init 225 = .ok (.dup, 1) := by decide +kernel
theorem dX10_init_226 : decode cX10_init 226 = .ok (.bipush 31, 2) := by decide +kernel
theorem dX10_init_228 : decode cX10_init 228 = .ok (.bipush 32, 2) := by decide +kernel
theorem dX10_init_230 : decode cX10_init 230 = .ok (.iastore, 1) := by decide +kernel
theorem dX10_init_231 : decode cX10_init 231 = .ok (.dup, 1) := by decide +kernel
theorem dX10_init_232 : decode cX10_init 232 = .ok (.bipush 32, 2) := by decide +kernel
theorem dX10_init_234 : decode cX10_init 234 = .ok (.bipush 102, 2) := by decide +kernel
theorem dX10_init_236 : decode cX10_init 236 = .ok (.iastore, 1) := by decide +kernel
theorem dX10_init_237 : decode cX10_init 237 = .ok (.dup, 1) := by decide +kernel
theorem dX10_init_238 : decode cX10_init 238 = .ok (.bipush 33, 2) := by decide +kernel
theorem dX10_init_240 : decode cX10_init 240 = .ok (.bipush 108, 2) := by decide +kernel
theorem dX10_init_242 : decode cX10_init 242 = .ok (.iastore, 1) := by decide +kernel
theorem dX10_init_243 : decode cX10_init 243 = .ok (.dup, 1) := by decide +kernel
theorem dX10_init_244 : decode cX10_init 244 = .ok (.bipush 34, 2) := by decide +kernel
theorem dX10_init_246 : decode cX10_init 246 = .ok (.bipush 97, 2) := by decide +kernel
theorem dX10_init_248 : decode cX10_init 248 = .ok (.iastore, 1) := by decide +kernel
theorem dX10_init_249 : decode cX10_init 249 = .ok (.dup, 1) := by decide +kernel
theorem dX10_init_250 : decode cX10_init 250 = .ok (.bipush 35, 2) := by decide +kernel
theorem dX10_init_252 : decode cX10_init 252 = .ok (.bipush 116, 2) := by decide +kernel
theorem dX10_init_254 : decode cX10_init 254 = .ok (.iastore, 1) := by decide +kernel
theorem dX10_init_255 : decode cX10_init 255 = .ok (.dup, 1) := by decide +kernel
theorem dX10_init_256 : decode cX10_init 256 = .ok (.bipush 36, 2) := by decide +kernel
theorem dX10_init_258 : decode cX10_init 258 = .ok (.bipush 32, 2) := by decide +kernel
theorem dX10_init_260 : decode cX10_init 260 = .ok (.iastore, 1) := by decide +kernel
theorem dX10_init_261 : decode cX10_init 261 = .ok (.dup, 1) := by decide +kernel
theorem dX10_init_262 : decode cX10_init 262 = .ok (.bipush 37, 2) := by decide +kernel
theorem dX10_init_264 : decode cX10_init 264 = .ok (.bipush 110, 2) := by decide +kernel
theorem dX10_init_266 : decode cX10_init 266 = .ok (.iastore, 1) := by decide +kernel
theorem dX10_init_267 : decode cX10_init 267 = .ok (.dup, 1) := by decide +kernel
theorem dX10_init_268 : decode cX10_init 268 = .ok (.bipush 38, 2) := by decide +kernel
theorem dX10_init_270 : decode cX10_init 270 = .ok (.bipush 97, 2) := by decide +kernel
theorem dX10_init_272 : decode cX10_init 272 = .ok (.iastore, 1) := by decide +kernel
theorem dX10_init_273 : decode cX10_init 273 = .ok (.dup, 1) := by decide +kernel
theorem dX10_init_274 : decode cX10_init 274 = .ok (.bipush 39, 2) := by decide +kernel
theorem dX10_init_276 : decode cX10_init 276 = .ok (.bipush 116, 2) := by decide +kernel
theorem dX10_init_278 : decode cX10_init 278 = .ok (.iastore, 1) := by decide +kernel
theorem dX10_init_279 : decode cX10_init 279 = .ok (.dup, 1) := by decide +kernel
theorem dX10_init_280 : decode cX10_init 280 = .ok (.bipush 40, 2) := by decide +kernel
theorem dX10_init_282 : decode cX10_init 282 = .ok (.bipush 117, 2) := by decide +kernel
theorem dX10_init_284 : decode cX10_init 284 = .ok (.iastore, 1) := by decide +kernel
theorem dX10_init_285 : decode cX10_init 285 = .ok (.dup, 1) := by decide +kernel
theorem dX10_init_286 : decode cX10_init 286 = .ok (.bipush 41, 2) := by decide +kernel
theorem dX10_init_288 : decode cX10_init 288 = .ok (.bipush 114, 2) := by decide +kernel
theorem dX10_init_290 : decode cX10_init 290 = .ok (.iastore, 1) := by decide +kernel
theorem dX10_init_291 : decode cX10_init 291 = .ok (.dup, 1) := by decide +kernel
theorem dX10_init_292 : decode cX10_init 292 = .ok (.bipush 42, 2) := by decide +kernel
theorem dX10_init_294 : decode cX10_init 294 = .ok (.bipush 97, 2) := by decide +kernel
theorem dX10_init_296 : decode cX10_init 296 = .ok (.iastore, 1) := by decide +kernel
theorem dX10_init_297 : decode cX10_init 297 = .ok (.dup, 1) := by decide +kernel
theorem dX10_init_298 : decode cX10_init 298 = .ok (.bipush 43, 2) := by decide +kernel
theorem dX10_init_300 : decode cX10_init 300 = .ok (.bipush 108, 2) := by decide +kernel
theorem dX10_init_302 : decode cX10_init 302 = .ok (.iastore, 1) := by decide +kernel
theorem dX10_init_303 : decode cX10_init 303 = .ok (.dup, 1) := by decide +kernel
theorem dX10_init_304 : decode cX10_init 304 = .ok (.bipush 44, 2) := by decide +kernel
theorem dX10_init_306 : decode cX10_init 306 = .ok (.bipush 32, 2) := by decide +kernel
theorem dX10_init_308 : decode cX10_init 308 = .ok (.iastore, 1) := by decide +kernel
theorem dX10_init_309 : decode cX10_init 309 = .ok (.dup, 1) := by decide +kernel
theorem dX10_init_310 : decode cX10_init 310 = .ok (.bipush 45, 2) := by decide +kernel
theorem dX10_init_312 : decode cX10_init 312 = .ok (.bipush 116, 2) := by decide +kernel
theorem dX10_init_314 : decode cX10_init 314 = .ok (.iastore, 1) := by decide +kernel
theorem dX10_init_315 : decode cX10_init 315 = .ok (.dup, 1) := by decide +kernel
theorem dX10_init_316 : decode cX10_init 316 = .ok (.bipush 46, 2) := by decide +kernel
theorem dX10_init_318 : decode cX10_init 318 = .ok (.bipush 105, 2) := by decide +kernel
theorem dX10_init_320 : decode cX10_init 320 = .ok (.iastore, 1) := by decide +kernel
theorem dX10_init_321 : decode cX10_init 321 = .ok (.dup, 1) := by decide +kernel
theorem dX10_init_322 : decode cX10_init 322 = .ok (.bipush 47, 2) := by decide +kernel
theorem dX10_init_324 : decode cX10_init 324 = .ok (.bipush 109, 2) := by decide +kernel
theorem dX10_init_326 : decode cX10_init 326 = .ok (.iastore, 1) := by decide +kernel
theorem dX10_init_327 : decode cX10_init 327 = .ok (.dup, 1) := by decide +kernel
theorem dX10_init_328 : decode cX10_init 328 = .ok (.bipush 48, 2) := by decide +kernel
theorem dX10_init_330 : decode cX10_init 330 = .ok (.bipush 101, 2) := by decide +kernel
theorem dX10_init_332 : decode cX10_init 332 = .ok (.iastore, 1) := by decide +kernel
theorem dX10_init_333 : decode cX10_init 333 = .ok (.dup, 1) := by decide +kernel
theorem dX10_init_334 : decode cX10_init 334 = .ok (.bipush 49, 2) := by decide +kernel
theorem dX10_init_336 : decode cX10_init 336 = .ok (.bipush 32, 2) := by decide +kernel
theorem dX10_init_338 : decode cX10_init 338 = .ok (.iastore, 1) := by decide +kernel
theorem dX10_init_339 : decode cX10_init 339 = .ok (.dup, 1) := by decide +kernel
theorem dX10_init_340 : decode cX10_init 340 = .ok (.bipush 50, 2) := by decide +kernel
theorem dX10_init_342 : decode cX10_init 342 = .ok (.bipush 118, 2) := by decide +kernel
theorem dX10_init_344 : decode cX10_init 344 = .ok (.iastore, 1) := by decide +kernel
theorem dX10_init_345 : decode cX10_init 345 = .ok (.dup, 1) := by decide +kernel
theorem dX10_init_346 : decode cX10_init 346 = .ok (.bipush 51, 2) := by decide +kernel
theorem dX10_init_348 : decode cX10_init 348 = .ok (.bipush 111, 2) := by decide +kernel
theorem dX10_init_350 : decode cX10_init 350 = .ok (.iastore, 1) := by decide +kernel
theorem dX10_init_351 : decode cX10_init 351 = .ok (.dup, 1) := by decide +kernel
theorem dX10_init_352 : decode cX10_init 352 = .ok (.bipush 52, 2) := by decide +kernel
theorem dX10_init_354 : decode cX10_init 354 = .ok (.bipush 105, 2) := by decide +kernel
theorem dX10_init_356 : decode cX10_init 356 = .ok (.iastore, 1) := by decide +kernel
theorem dX10_init_357 : decode cX10_init 357 = .ok (.dup, 1) := by decide +kernel
theorem dX10_init_358 : decode cX10_init 358 = .ok (.bipush 53, 2) := by decide +kernel
theorem dX10_init_360 : decode cX10_init 360 = .ok (.bipush 99, 2) := by decide +kernel
theorem dX10_init_362 : decode cX10_init 362 = .ok (.iastore, 1) := by decide +kernel
theorem dX10_init_363 : decode cX10_init 363 = .ok (.dup, 1) := by decide +kernel
theorem dX10_init_364 : decode cX10_init 364 = .ok (.bipush 54, 2) := by decide +kernel
theorem dX10_init_366 : decode cX10_init 366 = .ok (.bipush 101, 2) := by decide +kernel
theorem dX10_init_368 : decode cX10_init 368 = .ok (.iastore, 1) := by decide +kernel
theorem dX10_init_369 : decode cX10_init 369 = .ok (.dup, 1) := by decide +kernel
theorem dX10_init_370 : decode cX10_init 370 = .ok (.bipush 55, 2) := by decide +kernel
theorem dX10_init_372 : decode cX10_init 372 = .ok (.bipush 32, 2) := by decide +kernel
theorem dX10_init_374 : decode cX10_init 374 = .ok (.iastore, 1) := by decide +kernel
theorem dX10_init_375 : decode cX10_init 375 = .ok (.dup, 1) := by decide +kernel
theorem dX10_init_376 : decode cX10_init 376 = .ok (.bipush 56, 2) := by decide +kernel
theorem dX10_init_378 : decode cX10_init 378 = .ok (.bipush 114, 2) := by decide +kernel
theorem dX10_init_380 : decode cX10_init 380 = .ok (.iastore, 1) := by decide +kernel
theorem dX10_init_381 : decode cX10_init 381 = .ok (.dup, 1) := by decide +kernel
theorem dX10_init_382 : decode cX10_init 382 = .ok (.bipush 57, 2) := by decide +kernel
theorem dX10_init_384 : decode cX10_init 384 = .ok (.bipush 101, 2) := by decide +kernel
theorem dX10_init_386 : decode cX10_init 386 = .ok (.iastore, 1) := by decide +kernel
theorem dX10_init_387 : decode cX10_init 387 = .ok (.dup, 1) := by decide +kernel
theorem dX10_init_388 : decode cX10_init 388 = .ok (.bipush 58, 2) := by decide +kernel
theorem dX10_init_390 : decode cX10_init 390 = .ok (.bipush 115, 2) := by decide +kernel
theorem dX10_init_392 : decode cX10_init 392 = .ok (.iastore, 1) := by decide +kernel
theorem dX10_init_393 : decode cX10_init 393 = .ok (.dup, 1) := by decide +kernel
theorem dX10_init_394 : decode cX10_init 394 = .ok (.bipush 59, 2) := by decide +kernel
theorem dX10_init_396 : decode cX10_init 396 = .ok (.bipush 116, 2) := by decide +kernel
theorem dX10_init_398 : decode cX10_init 398 = .ok (.iastore, 1) := by decide +kernel
theorem dX10_init_399 : decode cX10_init 399 = .ok (.dup, 1) := by decide +kernel
theorem dX10_init_400 : decode cX10_init 400 = .ok (.bipush 60, 2) := by decide +kernel
theorem dX10_init_402 : decode cX10_init 402 = .ok (.bipush 32, 2) := by decide +kernel
theorem dX10_init_404 : decode cX10_init 404 = .ok (.iastore, 1) := by decide +kernel
theorem dX10_init_405 : decode cX10_init 405 = .ok (.dup, 1) := by decide +kernel
theorem dX10_init_406 : decode cX10_init 406 = .ok (.bipush 61, 2) := by decide +kernel
theorem dX10_init_408 : decode cX10_init 408 = .ok (.bipush 100, 2) := by decide +kernel
theorem dX10_init_410 : decode cX10_init 410 = .ok (.iastore, 1) := by decide +kernel
theorem dX10_init_411 : decode cX10_init 411 = .ok (.dup, 1) := by decide +kernel
theorem dX10_init_412 : decode cX10_init 412 = .ok (.bipush 62, 2) := by decide +kernel
theorem dX10_init_414 : decode cX10_init 414 = .ok (.bipush 111, 2) := by decide +kernel
theorem dX10_init_416 : decode cX10_init 416 = .ok (.iastore, 1) := by decide +kernel
theorem dX10_init_417 : decode cX10_init 417 = .ok (.dup, 1) := by decide +kernel
theorem dX10_init_418 : decode cX10_init 418 = .ok (.bipush 63, 2) := by decide +kernel
theorem dX10_init_420 : decode cX10_init 420 = .ok (.bipush 116, 2) := by decide +kernel
theorem dX10_init_422 : decode cX10_init 422 = .ok (.iastore, 1) := by decide +kernel
theorem dX10_init_423 : decode cX10_init 423 = .ok (.dup, 1) := by decide +kernel
theorem dX10_init_424 : decode cX10_init 424 = .ok (.bipush 64, 2) := by decide +kernel
theorem dX10_init_426 : decode cX10_init 426 = .ok (.bipush 116, 2) := by decide +kernel
theorem dX10_init_428 : decode cX10_init 428 = .ok (.iastore, 1) := by decide +kernel
theorem dX10_init_429 : decode cX10_init 429 = .ok (.dup, 1) := by decide +kernel
theorem dX10_init_430 : decode cX10_init 430 = .ok (.bipush 65, 2) := by decide +kernel
theorem dX10_init_432 : decode cX10_init 432 = .ok (.bipush 101, 2) := by decide +kernel
theorem dX10_init_434 : decode cX10_init 434 = .ok (.iastore, 1) := by decide +kernel
theorem dX10_init_435 : decode cX10_init 435 = .ok (.dup, 1) := by decide +kernel
theorem dX10_init_436 : decode cX10_init 436 = .ok (.bipush 66, 2) := by decide +kernel
theorem dX10_init_438 : decode cX10_init 438 = .ok (.bipush 100, 2) := by decide +kernel
theorem dX10_init_440 : decode cX10_init 440 = .ok (.iastore, 1) := by decide +kernel
theorem dX10_init_441 : decode cX10_init 441 = .ok (.dup, 1) := by decide +kernel
theorem dX10_init_442 : decode cX10_init 442 = .ok (.bipush 67, 2) := by decide +kernel
theorem dX10_init_444 : decode cX10_init 444 = .ok (.bipush 32, 2) := by decide +kernel
theorem dX10_init_446 : decode cX10_init 446 = .ok (.iastore, 1) := by decide +kernel
theorem dX10_init_447 : decode cX10_init 447 = .ok (.dup, 1) := by decide +kernel
theorem dX10_init_448 : decode cX10_init 448 = .ok (.bipush 68, 2) := by decide +kernel
theorem dX10_init_450 : decode cX10_init 450 = .ok (.bipush 119, 2) := by decide +kernel
theorem dX10_init_452 : decode cX10_init 452 = .ok (.iastore, 1) := by decide +kernel
theorem dX10_init_453 : decode cX10_init 453 = .ok (.dup, 1) := by decide +kernel
theorem dX10_init_454 : decode cX10_init 454 = .ok (.bipush 69, 2) := by decide +kernel
theorem dX10_init_456 : decode cX10_init 456 = .ok (.bipush 104, 2) := by decide +kernel
theorem dX10_init_458 : decode cX10_init 458 = .ok (.iastore, 1) := by decide +kernel
theorem dX10_init_459 : decode cX10_init 459 = .ok (.dup, 1) := by decide +kernel
theorem dX10_init_460 : decode cX10_init 460 = .ok (.bipush 70, 2) := by decide +kernel
theorem dX10_init_462 : decode cX10_init 462 = .ok (.bipush 111, 2) := by decide +kernel
theorem dX10_init_464 : decode cX10_init 464 = .ok (.iastore, 1) := by decide +kernel
theorem dX10_init_465 : decode cX10_init 465 = .ok (.dup, 1) := by decide +kernel
theorem dX10_init_466 : decode cX10_init 466 = .ok (.bipush 71, 2) := by decide +kernel
theorem dX10_init_468 : decode cX10_init 468 = .ok (.bipush 108, 2) := by decide +kernel
theorem dX10_init_470 : decode cX10_init 470 = .ok (.iastore, 1) := by decide +kernel
theorem dX10_init_471 : decode cX10_init 471 = .ok (.dup, 1) := by decide +kernel
theorem dX10_init_472 : decode cX10_init 472 = .ok (.bipush 72, 2) := by decide +kernel
theorem dX10_init_474 : decode cX10_init 474 = .ok (.bipush 101, 2) := by decide +kernel
theorem dX10_init_476 : decode cX10_init 476 = .ok (.iastore, 1) := by decide +kernel
theorem dX10_init_477 : decode cX10_init 477 = .ok (.dup, 1) := by decide +kernel
theorem dX10_init_478 : decode cX10_init 478 = .ok (.bipush 73, 2) := by decide +kernel
theorem dX10_init_480 : decode cX10_init 480 = .ok (.bipush 32, 2) := by decide +kernel
theorem dX10_init_482 : decode cX10_init 482 = .ok (.iastore, 1) := by decide +kernel
theorem dX10_init_483 : decode cX10_init 483 = .ok (.dup, 1) := by decide +kernel
theorem dX10_init_484 : decode cX10_init 484 = .ok (.bipush 74, 2) := by decide +kernel
theorem dX10_init_486 : decode cX10_init 486 = .ok (.bipush 104, 2) := by decide +kernel
theorem dX10_init_488 : decode cX10_init 488 = .ok (.iastore, 1) := by decide +kernel
theorem dX10_init_489 : decode cX10_init 489 = .ok (.dup, 1) := by decide +kernel
theorem dX10_init_490 : decode cX10_init 490 = .ok (.bipush 75, 2) := by decide +kernel
theorem dX10_init_492 : decode cX10_init 492 = .ok (.bipush 97, 2) := by decide +kernel
theorem dX10_init_494 : decode cX10_init 494 = .ok (.iastore, 1) := by decide +kernel
theorem dX10_init_495 : decode cX10_init 495 = .ok (.dup, 1) := by decide +kernel
theorem dX10_init_496 : decode cX10_init 496 = .ok (.bipush 76, 2) := by decide +kernel
theorem dX10_init_498 : decode cX10_init 498 = .ok (.bipush 108, 2) := by decide +kernel
theorem dX10_init_500 : decode cX10_init 500 = .ok (.iastore, 1) := by decide +kernel
theorem dX10_init_501 : decode cX10_init 501 = .ok (.dup, 1) := by decide +kernel
theorem dX10_init_502 : decode cX10_init 502 = .ok (.bipush 77, 2) := by decide +kernel
theorem dX10_init_504 : decode cX10_init 504 = .ok (.bipush 102, 2) := by decide +kernel
theorem dX10_init_506 : decode cX10_init 506 = .ok (.iastore, 1) := by decide +kernel
theorem dX10_init_507 : decode cX10_init 507 = .ok (.dup, 1) := by decide +kernel
theorem dX10_init_508 : decode cX10_init 508 = .ok (.bipush 78, 2) := by decide +kernel
theorem dX10_init_510 : decode cX10_init 510 = .ok (.bipush 32, 2) := by decide +kernel
theorem dX10_init_512 : decode cX10_init 512 = .ok (.iastore, 1) := by decide +kernel
theorem dX10_init_513 : decode cX10_init 513 = .ok (.dup, 1) := by decide +kernel
theorem dX10_init_514 : decode cX10_init 514 = .ok (.bipush 79, 2) := by decide +kernel
theorem dX10_init_516 : decode cX10_init 516 = .ok (.bipush 113, 2) := by decide +kernel
theorem dX10_init_518 : decode cX10_init 518 = .ok (.iastore, 1) := by decide +kernel
theorem dX10_init_519 : decode cX10_init 519 = .ok (.dup, 1) := by decide +kernel
theorem dX10_init_520 : decode cX10_init 520 = .ok (.bipush 80, 2) := by decide +kernel
theorem dX10_init_522 : decode cX10_init 522 = .ok (.bipush 117, 2) := by decide +kernel
theorem dX10_init_524 : decode cX10_init 524 = .ok (.iastore, 1) := by decide +kernel
theorem dX10_init_525 : decode cX10_init 525 = .ok (.dup, 1) := by decide +kernel
theorem dX10_init_526 : decode cX10_init 526 = .ok (.bipush 81, 2) := by decide +kernel
theorem dX10_init_528 : decode cX10_init 528 = .ok (.bipush 97, 2) := by decide +kernel
theorem dX10_init_530 : decode cX10_init 530 = .ok (.iastore, 1) := by decide +kernel
theorem dX10_init_531 : decode cX10_init 531 = .ok (.dup, 1) := by decide +kernel
theorem dX10_init_532 : decode cX10_init 532 = .ok (.bipush 82, 2) := by decide +kernel
theorem dX10_init_534 : decode cX10_init 534 = .ok (.bipush 114, 2) := by decide +kernel
theorem dX10_init_536 : decode cX10_init 536 = .ok (.iastore, 1) := by decide +kernel
theorem dX10_init_537 : decode cX10_init 537 = .ok (.dup, 1) := by decide +kernel
theorem dX10_init_538 : decode cX10_init 538 = .ok (.bipush 83, 2) := by decide +kernel
theorem dX10_init_540 : decode cX10_init 540 = .ok (.bipush 116, 2) := by decide +kernel
theorem dX10_init_542 : decode cX10_init 542 = .ok (.iastore, 1) := by decide +kernel
theorem dX10_init_543 : decode cX10_init 543 = .ok (.dup, 1) := by decide +kernel
theorem dX10_init_544 : decode cX10_init 544 = .ok (.bipush 84, 2) := by decide +kernel
theorem dX10_init_546 : decode cX10_init 546 = .ok (.bipush 101, 2) := by decide +kernel
theorem dX10_init_548 : decode cX10_init 548 = .ok (.iastore, 1) := by decide +kernel
theorem dX10_init_549 : decode cX10_init 549 = .ok (.dup, 1) := by decide +kernel
theorem dX10_init_550 : decode cX10_init 550 = .ok (.bipush 85, 2) := by decide +kernel
theorem dX10_init_552 : decode cX10_init 552 = .ok (.bipush 114, 2) := by decide +kernel
theorem dX10_init_554 : decode cX10_init 554 = .ok (.iastore, 1) := by decide +kernel
theorem dX10_init_555 : decode cX10_init 555 = .ok (.dup, 1) := by decide +kernel
theorem dX10_init_556 : decode cX10_init 556 = .ok (.bipush 86, 2) := by decide +kernel
theorem dX10_init_558 : decode cX10_init 558 = .ok (.bipush 32, 2) := by decide +kernel
theorem dX10_init_560 : decode cX10_init 560 = .ok (.iastore, 1) := by decide +kernel
theorem dX10_init_561 : decode cX10_init 561 = .ok (.dup, 1) := by decide +kernel
theorem dX10_init_562 : decode cX10_init 562 = .ok (.bipush 87, 2) := by decide +kernel
theorem dX10_init_564 : decode cX10_init 564 = .ok (.bipush 101, 2) := by decide +kernel
theorem dX10_init_566 : decode cX10_init 566 = .ok (.iastore, 1) := by decide +kernel
theorem dX10_init_567 : decode cX10_init 567 = .ok (.dup, 1) := by decide +kernel
theorem dX10_init_568 : decode cX10_init 568 = .ok (.bipush 88, 2) := by decide +kernel
theorem dX10_init_570 : decode cX10_init 570 = .ok (.bipush 105, 2) := by decide +kernel
theorem dX10_init_572 : decode cX10_init 572 = .ok (.iastore, 1) := by decide +kernel
theorem dX10_init_573 : decode cX10_init 573 = .ok (.dup, 1) := by decide +kernel
theorem dX10_init_574 : decode cX10_init 574 = .ok (.bipush 89, 2) := by decide +kernel
theorem dX10_init_576 : decode cX10_init 576 = .ok (.bipush 103, 2) := by decide +kernel
theorem dX10_init_578 : decode cX10_init 578 = .ok (.iastore, 1) := by decide +kernel
theorem dX10_init_579 : decode cX10_init 579 = .ok (.dup, 1) := by decide +kernel
theorem dX10_init_580 : decode cX10_init 580 = .ok (.bipush 90, 2) := by decide +kernel
theorem dX10_init_582 : decode cX10_init 582 = .ok (.bipush 104, 2) := by decide +kernel
theorem dX10_init_584 : decode cX10_init 584 = .ok (.iastore, 1) := by decide +kernel
theorem dX10_init_585 : decode cX10_init 585 = .ok (.dup, 1) := by decide +kernel
theorem dX10_init_586 : decode cX10_init 586 = .ok (.bipush 91, 2) := by decide +kernel
theorem dX10_init_588 : decode cX10_init 588 = .ok (.bipush 116, 2) := by decide +kernel
theorem dX10_init_590 : decode cX10_init 590 = .ok (.iastore, 1) := by decide +kernel
theorem dX10_init_591 : decode cX10_init 591 = .ok (.dup, 1) := by decide +kernel
theorem dX10_init_592 : decode cX10_init 592 = .ok (.bipush 92, 2) := by decide +kernel
theorem dX10_init_594 : decode cX10_init 594 = .ok (.bipush 104, 2) := by decide +kernel
theorem dX10_init_596 : decode cX10_init 596 = .ok (.iastore, 1) := by decide +kernel
theorem dX10_init_597 : decode cX10_init 597 = .ok (.dup, 1) := by decide +kernel
theorem dX10_init_598 : decode cX10_init 598 = .ok (.bipush 93, 2) := by decide +kernel
theorem dX10_init_600 : decode cX10_init 600 = .ok (.bipush 32, 2) := by decide +kernel
theorem dX10_init_602 : decode cX10_init 602 = .ok (.iastore, 1) := by decide +kernel
theorem dX10_init_603 : decode cX10_init 603 = .ok (.dup, 1) := by decide +kernel
theorem dX10_init_604 : decode cX10_init 604 = .ok (.bipush 94, 2) := by decide +kernel
theorem dX10_init_606 : decode cX10_init 606 = .ok (.bipush 115, 2) := by decide +kernel
theorem dX10_init_608 : decode cX10_init 608 = .ok (.iastore, 1) := by decide +kernel
theorem dX10_init_609 : decode cX10_init 609 = .ok (.dup, 1) := by decide +kernel
theorem dX10_init_610 : decode cX10_init 610 = .ok (.bipush 95, 2) := by decide +kernel
theorem dX10_init_612 : decode cX10_init 612 = .ok (.bipush 105, 2) := by decide +kernel
theorem dX10_init_614 : decode cX10_init 614 = .ok (.iastore, 1) := by decide +kernel
theorem dX10_init_615 : decode cX10_init 615 = .ok (.dup, 1) := by decide +kernel
theorem dX10_init_616 : decode cX10_init 616 = .ok (.bipush 96, 2) := by decide +kernel
theorem dX10_init_618 : decode cX10_init 618 = .ok (.bipush 120, 2) := by decide +kernel
theorem dX10_init_620 : decode cX10_init 620 = .ok (.iastore, 1) := by decide +kernel
theorem dX10_init_621 : decode cX10_init 621 = .ok (.dup, 1) := by decide +kernel
theorem dX10_init_622 : decode cX10_init 622 = .ok (.bipush 97, 2) := by decide +kernel
theorem dX10_init_624 : decode cX10_init 624 = .ok (.bipush 116, 2) := by decide +kernel
theorem dX10_init_626 : decode cX10_init 626 = .ok (.iastore, 1) := by decide +kernel
theorem dX10_init_627 : decode cX10_init 627 = .ok (.dup, 1) := by decide +kernel
theorem dX10_init_628 : decode cX10_init 628 = .ok (.bipush 98, 2) := by decide +kernel
theorem dX10_init_630 : decode cX10_init 630 = .ok (.bipush 101, 2) := by decide +kernel
theorem dX10_init_632 : decode cX10_init 632 = .ok (.iastore, 1) := by decide +kernel
theorem dX10_init_633 : decode cX10_init 633 = .ok (.dup, 1) := by decide +kernel
theorem dX10_init_634 : decode cX10_init 634 = .ok (.bipush 99, 2) := by decide +kernel
theorem dX10_init_636 : decode cX10_init 636 = .ok (.bipush 101, 2) := by decide +kernel
theorem dX10_init_638 : decode cX10_init 638 = .ok (.iastore, 1) := by decide +kernel
theorem dX10_init_639 : decode cX10_init 639 = .ok (.dup, 1) := by decide +kernel
theorem dX10_init_640 : decode cX10_init 640 = .ok (.bipush 100, 2) := by decide +kernel
theorem dX10_init_642 : decode cX10_init 642 = .ok (.bipush 110, 2) := by decide +kernel
theorem dX10_init_644 : decode cX10_init 644 = .ok (.iastore, 1) := by decide +kernel
theorem dX10_init_645 : decode cX10_init 645 = .ok (.dup, 1) := by decide +kernel
theorem dX10_init_646 : decode cX10_init 646 = .ok (.bipush 101, 2) := by decide +kernel
theorem dX10_init_648 : decode cX10_init 648 = .ok (.bipush 116, 2) := by decide +kernel
theorem dX10_init_650 : decode cX10_init 650 = .ok (.iastore, 1) := by decide +kernel
theorem dX10_init_651 : decode cX10_init 651 = .ok (.dup, 1) := by decide +kernel
theorem dX10_init_652 : decode cX10_init 652 = .ok (.bipush 102, 2) := by decide +kernel
theorem dX10_init_654 : decode cX10_init 654 = .ok (.bipush 104, 2) := by decide +kernel
theorem dX10_init_656 : decode cX10_init 656 = .ok (.iastore, 1) := by decide +kernel
theorem dX10_init_657 : decode cX10_init 657 = .ok (.dup, 1) := by decide +kernel
theorem dX10_init_658 : decode cX10_init 658 = .ok (.bipush 103, 2) := by decide +kernel
theorem dX10_init_660 : decode cX10_init 660 = .ok (.bipush 32, 2) := by decide +kernel
theorem dX10_init_662 : decode cX10_init 662 = .ok (.iastore, 1) := by decide +kernel
theorem dX10_init_663 : decode cX10_init 663 = .ok (.dup, 1) := by decide +kernel
theorem dX10_init_664 : decode cX10_init 664 = .ok (.bipush 104, 2) := by decide +kernel
theorem dX10_init_666 : decode cX10_init 666 = .ok (.bipush 116, 2) := by decide +kernel
theorem dX10_init_668 : decode cX10_init 668 = .ok (.iastore, 1) := by decide +kernel
theorem dX10_init_669 : decode cX10_init 669 = .ok (.dup, 1) := by decide +kernel
theorem dX10_init_670 : decode cX10_init 670 = .ok (.bipush 105, 2) := by decide +kernel
theorem dX10_init_672 : decode cX10_init 672 = .ok (.bipush 105, 2) := by decide +kernel
theorem dX10_init_674 : decode cX10_init 674 = .ok (.iastore, 1) := by decide +kernel
theorem dX10_init_675 : decode cX10_init 675 = .ok (.dup, 1) := by decide +kernel
theorem dX10_init_676 : decode cX10_init 676 = .ok (.bipush 106, 2) := by decide +kernel
theorem dX10_init_678 : decode cX10_init 678 = .ok (.bipush 101, 2) := by decide +kernel
theorem dX10_init_680 : decode cX10_init 680 = .ok (.iastore, 1) := by decide +kernel
theorem dX10_init_681 : decode cX10_init 681 = .ok (.dup, 1) := by decide +kernel
theorem dX10_init_682 : decode cX10_init 682 = .ok (.bipush 107, 2) := by decide +kernel
theorem dX10_init_684 : decode cX10_init 684 = .ok (.bipush 100, 2) := by decide +kernel
theorem dX10_init_686 : decode cX10_init 686 = .ok (.iastore, 1) := by decide +kernel
theorem dX10_init_687 : decode cX10_init 687 = .ok (.dup, 1) := by decide +kernel
theorem dX10_init_688 : decode cX10_init 688 = .ok (.bipush 108, 2) := by decide +kernel
theorem dX10_init_690 : decode cX10_init 690 = .ok (.bipush 32, 2) := by decide +kernel
theorem dX10_init_692 : decode cX10_init 692 = .ok (.iastore, 1) := by decide +kernel
theorem dX10_init_693 : decode cX10_init 693 = .ok (.dup, 1) := by decide +kernel
theorem dX10_init_694 : decode cX10_init 694 = .ok (.bipush 109, 2) := by decide +kernel
theorem dX10_init_696 : decode cX10_init 696 = .ok (.bipush 98, 2) := by decide +kernel
theorem dX10_init_698 : decode cX10_init 698 = .ok (.iastore, 1) := by decide +kernel
theorem dX10_init_699 : decode cX10_init 699 = .ok (.dup, 1) := by decide +kernel
theorem dX10_init_700 : decode cX10_init 700 = .ok (.bipush 110, 2) := by decide +kernel
theorem dX10_init_702 : decode cX10_init 702 = .ok (.bipush 97, 2) := by decide +kernel
theorem dX10_init_704 : decode cX10_init 704 = .ok (.iastore, 1) := by decide +kernel
theorem dX10_init_705 : decode cX10_init 705 = .ok (.dup, 1) := by decide +kernel
theorem dX10_init_706 : decode cX10_init 706 = .ok (.bipush 111, 2) := by decide +kernel
theorem dX10_init_708 : decode cX10_init 708 = .ok (.bipush 99, 2) := by decide +kernel
theorem dX10_init_710 : decode cX10_init 710 = .ok (.iastore, 1) := by decide +kernel
theorem dX10_init_711 : decode cX10_init 711 = .ok (.dup, 1) := by decide +kernel
theorem dX10_init_712 : decode cX10_init 712 = .ok (.bipush 112, 2) := by decide +kernel
theorem dX10_init_714 : decode cX10_init 714 = .ok (.bipush 107, 2) := by decide +kernel
theorem dX10_init_716 : decode cX10_init 716 = .ok (.iastore, 1) := by decide +kernel
theorem dX10_init_717 : decode cX10_init 717 = .ok (.dup, 1) := by decide +kernel
theorem dX10_init_718 : decode cX10_init 718 = .ok (.bipush 113, 2) := by decide +kernel
theorem dX10_init_720 : decode cX10_init 720 = .ok (.bipush 32, 2) := by decide +kernel
theorem dX10_init_722 : decode cX10_init 722 = .ok (.iastore, 1) := by decide +kernel
theorem dX10_init_723 : decode cX10_init 723 = .ok (.dup, 1) := by decide +kernel
theorem dX10_init_724 : decode cX10_init 724 = .ok (.bipush 114, 2) := by decide +kernel
theorem dX10_init_726 : decode cX10_init 726 = .ok (.bipush 101, 2) := by decide +kernel
theorem dX10_init_728 : decode cX10_init 728 = .ok (.iastore, 1) := by decide +kernel
theorem dX10_init_729 : decode cX10_init 729 = .ok (.dup, 1) := by decide +kernel
theorem dX10_init_730 : decode cX10_init 730 = .ok (.bipush 115, 2) := by decide +kernel
theorem dX10_init_732 : decode cX10_init 732 = .ok (.bipush 110, 2) := by decide +kernel
theorem dX10_init_734 : decode cX10_init 734 = .ok (.iastore, 1) := by decide +kernel
theorem dX10_init_735 : decode cX10_init 735 = .ok (.dup, 1) := by decide +kernel
theorem dX10_init_736 : decode cX10_init 736 = .ok (.bipush 116, 2) := by decide +kernel
theorem dX10_init_738 : decode cX10_init 738 = .ok (.bipush 100, 2) := by decide +kernel
theorem dX10_init_740 : decode cX10_init 740 = .ok (.iastore, 1) := by decide +kernel
theorem dX10_init_741 : decode cX10_init 741 = .ok (.dup, 1) := by decide +kernel
theorem dX10_init_742 : decode cX10_init 742 = .ok (.bipush 117, 2) := by decide +kernel
theorem dX10_init_744 : decode cX10_init 744 = .ok (.bipush 32, 2) := by decide +kernel
theorem dX10_init_746 : decode cX10_init 746 = .ok (.iastore, 1) := by decide +kernel
theorem dX10_init_747 : decode cX10_init 747 = .ok (.putfield 22, 3) := by decide +kernel
theorem dX10_init_750 : decode cX10_init 750 = .ok (.aload_n 0, 1) := by decide +kernel
theorem dX10_init_751 : decode cX10_init 751 = .ok (.sipush 2000, 3) := by decide +kernel
theorem dX10_init_754 : decode cX10_init 754 = .ok (.newarray .int, 2) := by decide +kernel
theorem dX10_init_756 : decode cX10_init 756 = .ok (.putfield 25, 3) := by decide +kernel
theorem dX10_init_759 : decode cX10_init 759 = .ok (.aload_n 0, 1) := by decide +kernel
theorem dX10_init_760 : decode cX10_init 760 = .ok (.sipush 201, 3) := by decide +kernel
theorem dX10_init_763 : decode cX10_init 763 = .ok (.newarray .int, 2) := by decide +kernel
theorem dX10_init_765 : decode cX10_init 765 = .ok (.putfield 28, 3) := by decide +kernel
theorem dX10_init_768 : decode cX10_init 768 = .ok (.return_, 1) := by decide +kernel
theorem dX10_thrown_0 : decode cX10_thrown 0 = .ok (.aload_n 0, 1) := by decide +kernel
theorem dX10_thrown_1 : decode cX10_thrown 1 = .ok (.getfield 31, 3) := by decide +kernel
theorem dX10_thrown_4 : decode cX10_thrown 4 = .ok (.ireturn, 1) := by decide +kernel
theorem dX10_refused_0 : decode cX10_refused 0 = .ok (.aload_n 0, 1) := by decide +kernel
theorem dX10_refused_1 : decode cX10_refused 1 = .ok (.iload_n 1, 1) := by decide +kernel
theorem dX10_refused_2 : decode cX10_refused 2 = .ok (.putfield 31, 3) := by decide +kernel
theorem dX10_refused_5 : decode cX10_refused 5 = .ok (.iload_n 1, 1) := by decide +kernel
theorem dX10_refused_6 : decode cX10_refused 6 = .ok (.ifCond .le 7, 3) := by decide +kernel
theorem dX10_refused_9 : decode cX10_refused 9 = .ok (.iconst 1, 1) := by decide +kernel
theorem dX10_refused_10 : decode cX10_refused 10 = .ok (.goto 4, 3) := by decide +kernel
theorem dX10_refused_13 : decode cX10_refused 13 = .ok (.iconst 0, 1) := by decide +kernel
theorem dX10_refused_14 : decode cX10_refused 14 = .ok (.ireturn, 1) := by decide +kernel
theorem dX10_in_0 : decode cX10_in 0 = .ok (.iload_n 0, 1) := by decide +kernel
theorem dX10_in_1 : decode cX10_in 1 = .ok (.iload_n 1, 1) := by decide +kernel
theorem dX10_in_2 : decode cX10_in 2 = .ok (.if_icmp .lt 12, 3) := by decide +kernel
theorem dX10_in_5 : decode cX10_in 5 = .ok (.iload_n 0, 1) := by decide +kernel
theorem dX10_in_6 : decode cX10_in 6 = .ok (.iload_n 2, 1) := by decide +kernel
theorem dX10_in_7 : decode cX10_in 7 = .ok (.if_icmp .gt 7, 3) := by decide +kernel
theorem dX10_in_10 : decode cX10_in 10 = .ok (.iconst 1, 1) := by decide +kernel
theorem dX10_in_11 : decode cX10_in 11 = .ok (.goto 4, 3) := by decide +kernel
theorem dX10_in_14 : decode cX10_in 14 = .ok (.iconst 0, 1) := by decide +kernel
theorem dX10_in_15 : decode cX10_in 15 = .ok (.ireturn, 1) := by decide +kernel
theorem dX10_saves_0 : decode cX10_saves 0 = .ok (.aload_n 0, 1) := by decide +kernel
theorem dX10_saves_1 : decode cX10_saves 1 = .ok (.getfield 35, 3) := by decide +kernel
theorem dX10_saves_4 : decode cX10_saves 4 = .ok (.iconst 4, 1) := by decide +kernel
theorem dX10_saves_5 : decode cX10_saves 5 = .ok (.if_icmp .ne 44, 3) := by decide +kernel
theorem dX10_saves_8 : decode cX10_saves 8 = .ok (.iconst 0, 1) := by decide +kernel
theorem dX10_saves_9 : decode cX10_saves 9 = .ok (.istore_n 1, 1) := by decide +kernel
theorem dX10_saves_10 : decode cX10_saves 10 = .ok (.iload_n 1, 1) := by decide +kernel
theorem dX10_saves_11 : decode cX10_saves 11 = .ok (.sipush 9651, 3) := by decide +kernel
theorem dX10_saves_14 : decode cX10_saves 14 = .ok (.if_icmp .ge 25, 3) := by decide +kernel
theorem dX10_saves_17 : decode cX10_saves 17 = .ok (.aload_n 0, 1) := by decide +kernel
theorem dX10_saves_18 : decode cX10_saves 18 = .ok (.getfield 13, 3) := by decide +kernel
theorem dX10_saves_21 : decode cX10_saves 21 = .ok (.iload_n 1, 1) := by decide +kernel
theorem dX10_saves_22 : decode cX10_saves 22 = .ok (.aload_n 0, 1) := by decide +kernel
theorem dX10_saves_23 : decode cX10_saves 23 = .ok (.getfield 13, 3) := by decide +kernel
theorem dX10_saves_26 : decode cX10_saves 26 = .ok (.iload_n 1, 1) := by decide +kernel
theorem dX10_saves_27 : decode cX10_saves 27 = .ok (.sipush 3217, 3) := by decide +kernel
theorem dX10_saves_30 : decode cX10_saves 30 = .ok (.iadd, 1) := by decide +kernel
theorem dX10_saves_31 : decode cX10_saves 31 = .ok (.iaload, 1) := by decide +kernel
theorem dX10_saves_32 : decode cX10_saves 32 = .ok (.iastore, 1) := by decide +kernel
theorem dX10_saves_33 : decode cX10_saves 33 = .ok (.iinc 1 1, 3) := by decide +kernel
theorem dX10_saves_36 : decode cX10_saves 36 = .ok (.goto (-26), 3) := by decide +kernel
theorem dX10_saves_39 : decode cX10_saves 39 = .ok (.aload_n 0, 1) := by decide +kernel
theorem dX10_saves_40 : decode cX10_saves 40 = .ok (.dup, 1) := by decide +kernel
theorem dX10_saves_41 : decode cX10_saves 41 = .ok (.getfield 35, 3) := by decide +kernel
theorem dX10_saves_44 : decode cX10_saves 44 = .ok (.iconst 1, 1) := by decide +kernel
theorem dX10_saves_45 : decode cX10_saves 45 = .ok (.isub, 1) := by decide +kernel
theorem dX10_saves_46 : decode cX10_saves 46 = .ok (.putfield 35, 3) := by decide +kernel
theorem dX10_saves_49 : decode cX10_saves 49 = .ok (.iconst 0, 1) := by decide +kernel
theorem dX10_saves_50 : decode cX10_saves 50 = .ok (.istore_n 1, 1) := by decide +kernel
theorem dX10_saves_51 : decode cX10_saves 51 = .ok (.iload_n 1, 1) := by decide +kernel
theorem dX10_saves_52 : decode cX10_saves 52 = .ok (.sipush 3217, 3) := by decide +kernel
theorem dX10_saves_55 : decode cX10_saves 55 = .ok (.if_icmp .ge 30, 3) := by decide +kernel
theorem dX10_saves_58 : decode cX10_saves 58 = .ok (.aload_n 0, 1) := by decide +kernel
theorem dX10_saves_59 : decode cX10_saves 59 = .ok (.getfield 13, 3) := by decide +kernel
theorem dX10_saves_62 : decode cX10_saves 62 = .ok (.sipush 3217, 3) := by decide +kernel
theorem dX10_saves_65 : decode cX10_saves 65 = .ok (.aload_n 0, 1) := by decide +kernel
theorem dX10_saves_66 : decode cX10_saves 66 = .ok (.getfield 35, 3) := by decide +kernel
theorem dX10_saves_69 : decode cX10_saves 69 = .ok (.imul, 1) := by decide +kernel
theorem dX10_saves_70 : decode cX10_saves 70 = .ok (.iload_n 1, 1) := by decide +kernel
theorem dX10_saves_71 : decode cX10_saves 71 = .ok (.iadd, 1) := by decide +kernel
theorem dX10_saves_72 : decode cX10_saves 72 = .ok (.aload_n 0, 1) := by decide +kernel
theorem dX10_saves_73 : decode cX10_saves 73 = .ok (.getfield 7, 3) := by decide +kernel
theorem dX10_saves_76 : decode cX10_saves 76 = .ok (.iload_n 1, 1) := by decide +kernel
theorem dX10_saves_77 : decode cX10_saves 77 = .ok (.iaload, 1) := by decide +kernel
theorem dX10_saves_78 : decode cX10_saves 78 = .ok (.iastore, 1) := by decide +kernel
theorem dX10_saves_79 : decode cX10_saves 79 = .ok (.iinc 1 1, 3) := by decide +kernel
theorem dX10_saves_82 : decode cX10_saves 82 = .ok (.goto (-31), 3) := by decide +kernel
theorem dX10_saves_85 : decode cX10_saves 85 = .ok (.aload_n 0, 1) := by decide +kernel
theorem dX10_saves_86 : decode cX10_saves 86 = .ok (.dup, 1) := by decide +kernel
theorem dX10_saves_87 : decode cX10_saves 87 = .ok (.getfield 35, 3) := by decide +kernel
theorem dX10_saves_90 : decode cX10_saves 90 = .ok (.iconst 1, 1) := by decide +kernel
theorem dX10_saves_91 : decode cX10_saves 91 = .ok (.iadd, 1) := by decide +kernel
theorem dX10_saves_92 : decode cX10_saves 92 = .ok (.putfield 35, 3) := by decide +kernel
theorem dX10_saves_95 : decode cX10_saves 95 = .ok (.return_, 1) := by decide +kernel
theorem dX10_undo_0 : decode cX10_undo 0 = .ok (.aload_n 0, 1) := by decide +kernel
theorem dX10_undo_1 : decode cX10_undo 1 = .ok (.aload_n 0, 1) := by decide +kernel
theorem dX10_undo_2 : decode cX10_undo 2 = .ok (.getfield 35, 3) := by decide +kernel
theorem dX10_undo_5 : decode cX10_undo 5 = .ok (.ifCond .ne 7, 3) := by decide +kernel
theorem dX10_undo_8 : decode cX10_undo 8 = .ok (.iconst 1, 1) := by decide +kernel
theorem dX10_undo_9 : decode cX10_undo 9 = .ok (.goto 4, 3) := by decide +kernel
theorem dX10_undo_12 : decode cX10_undo 12 = .ok (.iconst 0, 1) := by decide +kernel
theorem dX10_undo_13 : decode cX10_undo 13 = .ok (.invokevirtual 38, 3) := by decide +kernel
theorem dX10_undo_16 : decode cX10_undo 16 = .ok (.ifCond .eq 5, 3) := by decide +kernel
theorem dX10_undo_19 : decode cX10_undo 19 = .ok (.iconst 0, 1) := by decide +kernel
theorem dX10_undo_20 : decode cX10_undo 20 = .ok (.ireturn, 1) := by decide +kernel
theorem dX10_undo_21 : decode cX10_undo 21 = .ok (.aload_n 0, 1) := by decide +kernel
theorem dX10_undo_22 : decode cX10_undo 22 = .ok (.dup, 1) := by decide +kernel
theorem dX10_undo_23 : decode cX10_undo 23 = .ok (.getfield 35, 3) := by decide +kernel
theorem dX10_undo_26 : decode cX10_undo 26 = .ok (.iconst 1, 1) := by decide +kernel
theorem dX10_undo_27 : decode cX10_undo 27 = .ok (.isub, 1) := by decide +kernel
theorem dX10_undo_28 : decode cX10_undo 28 = .ok (.putfield 35, 3) := by decide +kernel
theorem dX10_undo_31 : decode cX10_undo 31 = .ok (.iconst 0, 1) := by decide +kernel
theorem dX10_undo_32 : decode cX10_undo 32 = .ok (.istore_n 1, 1) := by decide +kernel
theorem dX10_undo_33 : decode cX10_undo 33 = .ok (.iload_n 1, 1) := by decide +kernel
theorem dX10_undo_34 : decode cX10_undo 34 = .ok (.sipush 3217, 3) := by decide +kernel
theorem dX10_undo_37 : decode cX10_undo 37 = .ok (.if_icmp .ge 30, 3) := by decide +kernel
theorem dX10_undo_40 : decode cX10_undo 40 = .ok (.aload_n 0, 1) := by decide +kernel
theorem dX10_undo_41 : decode cX10_undo 41 = .ok (.getfield 7, 3) := by decide +kernel
theorem dX10_undo_44 : decode cX10_undo 44 = .ok (.iload_n 1, 1) := by decide +kernel
theorem dX10_undo_45 : decode cX10_undo 45 = .ok (.aload_n 0, 1) := by decide +kernel
theorem dX10_undo_46 : decode cX10_undo 46 = .ok (.getfield 13, 3) := by decide +kernel
theorem dX10_undo_49 : decode cX10_undo 49 = .ok (.sipush 3217, 3) := by decide +kernel
theorem dX10_undo_52 : decode cX10_undo 52 = .ok (.aload_n 0, 1) := by decide +kernel
theorem dX10_undo_53 : decode cX10_undo 53 = .ok (.getfield 35, 3) := by decide +kernel
theorem dX10_undo_56 : decode cX10_undo 56 = .ok (.imul, 1) := by decide +kernel
theorem dX10_undo_57 : decode cX10_undo 57 = .ok (.iload_n 1, 1) := by decide +kernel
theorem dX10_undo_58 : decode cX10_undo 58 = .ok (.iadd, 1) := by decide +kernel
theorem dX10_undo_59 : decode cX10_undo 59 = .ok (.iaload, 1) := by decide +kernel
theorem dX10_undo_60 : decode cX10_undo 60 = .ok (.iastore, 1) := by decide +kernel
theorem dX10_undo_61 : decode cX10_undo 61 = .ok (.iinc 1 1, 3) := by decide +kernel
theorem dX10_undo_64 : decode cX10_undo 64 = .ok (.goto (-31), 3) := by decide +kernel
theorem dX10_undo_67 : decode cX10_undo 67 = .ok (.aload_n 0, 1) := by decide +kernel
theorem dX10_undo_68 : decode cX10_undo 68 = .ok (.getfield 35, 3) := by decide +kernel
theorem dX10_undo_71 : decode cX10_undo 71 = .ok (.ireturn, 1) := by decide +kernel
theorem dX10_base_0 : decode cX10_base 0 = .ok (.iconst 1, 1) := by decide +kernel
theorem dX10_base_1 : decode cX10_base 1 = .ok (.sipush 201, 3) := by decide +kernel
theorem dX10_base_4 : decode cX10_base 4 = .ok (.iload_n 0, 1) := by decide +kernel
theorem dX10_base_5 : decode cX10_base 5 = .ok (.imul, 1) := by decide +kernel
theorem dX10_base_6 : decode cX10_base 6 = .ok (.iadd, 1) := by decide +kernel
theorem dX10_base_7 : decode cX10_base 7 = .ok (.ireturn, 1) := by decide +kernel
theorem dX10_of_0 : decode cX10_of 0 = .ok (.aload_n 0, 1) := by decide +kernel
theorem dX10_of_1 : decode cX10_of 1 = .ok (.getfield 7, 3) := by decide +kernel
theorem dX10_of_4 : decode cX10_of 4 = .ok (.iconst 1, 1) := by decide +kernel
theorem dX10_of_5 : decode cX10_of 5 = .ok (.sipush 201, 3) := by decide +kernel
theorem dX10_of_8 : decode cX10_of 8 = .ok (.iload_n 1, 1) := by decide +kernel
theorem dX10_of_9 : decode cX10_of 9 = .ok (.imul, 1) := by decide +kernel
theorem dX10_of_10 : decode cX10_of 10 = .ok (.iadd, 1) := by decide +kernel
theorem dX10_of_11 : decode cX10_of 11 = .ok (.iload_n 2, 1) := by decide +kernel
theorem dX10_of_12 : decode cX10_of 12 = .ok (.iadd, 1) := by decide +kernel
theorem dX10_of_13 : decode cX10_of 13 = .ok (.iaload, 1) := by decide +kernel
theorem dX10_of_14 : decode cX10_of 14 = .ok (.ireturn, 1) := by decide +kernel
theorem dX10_cell_0 : decode cX10_cell 0 = .ok (.iconst 1, 1) := by decide +kernel
theorem dX10_cell_1 : decode cX10_cell 1 = .ok (.sipush 201, 3) := by decide +kernel
theorem dX10_cell_4 : decode cX10_cell 4 = .ok (.iload_n 0, 1) := by decide +kernel
theorem dX10_cell_5 : decode cX10_cell 5 = .ok (.imul, 1) := by decide +kernel
theorem dX10_cell_6 : decode cX10_cell 6 = .ok (.iadd, 1) := by decide +kernel
theorem dX10_cell_7 : decode cX10_cell 7 = .ok (.bipush 9, 2) := by decide +kernel
theorem dX10_cell_9 : decode cX10_cell 9 = .ok (.iadd, 1) := by decide +kernel
theorem dX10_cell_10 : decode cX10_cell 10 = .ok (.bipush 96, 2) := by decide +kernel
theorem dX10_cell_12 : decode cX10_cell 12 = .ok (.iload_n 1, 1) := by decide +kernel
theorem dX10_cell_13 : decode cX10_cell 13 = .ok (.imul, 1) := by decide +kernel
theorem dX10_cell_14 : decode cX10_cell 14 = .ok (.iadd, 1) := by decide +kernel
theorem dX10_cell_15 : decode cX10_cell 15 = .ok (.iconst 4, 1) := by decide +kernel
theorem dX10_cell_16 : decode cX10_cell 16 = .ok (.iload_n 2, 1) := by decide +kernel
theorem dX10_cell_17 : decode cX10_cell 17 = .ok (.imul, 1) := by decide +kernel
theorem dX10_cell_18 : decode cX10_cell 18 = .ok (.iadd, 1) := by decide +kernel
theorem dX10_cell_19 : decode cX10_cell 19 = .ok (.ireturn, 1) := by decide +kernel
theorem dX10_isMeasure_0 : decode cX10_isMeasure 0 = .ok (.iload_n 1, 1) := by decide +kernel
theorem dX10_isMeasure_1 : decode cX10_isMeasure 1 = .ok (.iconst 0, 1) := by decide +kernel
theorem dX10_isMeasure_2 : decode cX10_isMeasure 2 = .ok (.aload_n 0, 1) := by decide +kernel
theorem dX10_isMeasure_3 : decode cX10_isMeasure 3 = .ok (.getfield 7, 3) := by decide +kernel
theorem dX10_isMeasure_6 : decode cX10_isMeasure 6 = .ok (.iconst 0, 1) := by decide +kernel
theorem dX10_isMeasure_7 : decode cX10_isMeasure 7 = .ok (.iaload, 1) := by decide +kernel
theorem dX10_isMeasure_8 : decode cX10_isMeasure 8 = .ok (.iconst 1, 1) := by decide +kernel
theorem dX10_isMeasure_9 : decode cX10_isMeasure 9 = .ok (.isub, 1) := by decide +kernel
theorem dX10_isMeasure_10 : decode cX10_isMeasure 10 = .ok (.invokestatic 42, 3) := by decide +kernel
theorem dX10_isMeasure_13 : decode cX10_isMeasure 13 = .ok (.ireturn, 1) := by decide +kernel
theorem dX10_isVoice_0 : decode cX10_isVoice 0 = .ok (.aload_n 0, 1) := by decide +kernel
theorem dX10_isVoice_1 : decode cX10_isVoice 1 = .ok (.iload_n 1, 1) := by decide +kernel
theorem dX10_isVoice_2 : decode cX10_isVoice 2 = .ok (.invokevirtual 46, 3) := by decide +kernel
theorem dX10_isVoice_5 : decode cX10_isVoice 5 = .ok (.ifCond .eq 16, 3) := by decide +kernel
theorem dX10_isVoice_8 : decode cX10_isVoice 8 = .ok (.iload_n 2, 1) := by decide +kernel
theorem dX10_isVoice_9 : decode cX10_isVoice 9 = .ok (.iconst 0, 1) := by decide +kernel
theorem dX10_isVoice_10 : decode cX10_isVoice 10 = .ok (.iconst 1, 1) := by decide +kernel
theorem dX10_isVoice_11 : decode cX10_isVoice 11 = .ok (.invokestatic 42, 3) := by decide +kernel
theorem dX10_isVoice_14 : decode cX10_isVoice 14 = .ok (.ifCond .eq 7, 3) := by decide +kernel
theorem dX10_isVoice_17 : decode cX10_isVoice 17 = .ok (.iconst 1, 1) := by decide +kernel
theorem dX10_isVoice_18 : decode cX10_isVoice 18 = .ok (.goto 4, 3) := by decide +kernel
theorem dX10_isVoice_21 : decode cX10_isVoice 21 = .ok (.iconst 0, 1) := by decide +kernel
theorem dX10_isVoice_22 : decode cX10_isVoice 22 = .ok (.ireturn, 1) := by decide +kernel
theorem dX10_isEvent_0 : decode cX10_isEvent 0 = .ok (.aload_n 0, 1) := by decide +kernel
theorem dX10_isEvent_1 : decode cX10_isEvent 1 = .ok (.iload_n 1, 1) := by decide +kernel
theorem dX10_isEvent_2 : decode cX10_isEvent 2 = .ok (.iload_n 2, 1) := by decide +kernel
theorem dX10_isEvent_3 : decode cX10_isEvent 3 = .ok (.invokevirtual 49, 3) := by decide +kernel
theorem dX10_isEvent_6 : decode cX10_isEvent 6 = .ok (.ifCond .eq 26, 3) := by decide +kernel
theorem dX10_isEvent_9 : decode cX10_isEvent 9 = .ok (.iload_n 3, 1) := by decide +kernel
theorem dX10_isEvent_10 : decode cX10_isEvent 10 = .ok (.iconst 0, 1) := by decide +kernel
theorem dX10_isEvent_11 : decode cX10_isEvent 11 = .ok (.aload_n 0, 1) := by decide +kernel
theorem dX10_isEvent_12 : decode cX10_isEvent 12 = .ok (.iload_n 1, 1) := by decide +kernel
theorem dX10_isEvent_13 : decode cX10_isEvent 13 = .ok (.bipush 7, 2) := by decide +kernel
theorem dX10_isEvent_15 : decode cX10_isEvent 15 = .ok (.iload_n 2, 1) := by decide +kernel
theorem dX10_isEvent_16 : decode cX10_isEvent 16 = .ok (.iadd, 1) := by decide +kernel
theorem dX10_isEvent_17 : decode cX10_isEvent 17 = .ok (.invokevirtual 53, 3) := by decide +kernel
theorem dX10_isEvent_20 : decode cX10_isEvent 20 = .ok (.iconst 1, 1) := by decide +kernel
theorem dX10_isEvent_21 : decode cX10_isEvent 21 = .ok (.isub, 1) := by decide +kernel
theorem dX10_isEvent_22 : decode cX10_isEvent 22 = .ok (.invokestatic 42, 3) := by decide +kernel
theorem dX10_isEvent_25 : decode cX10_isEvent 25 = .ok (.ifCond .eq 7, 3) := by decide +kernel
theorem dX10_isEvent_28 : decode cX10_isEvent 28 = .ok (.iconst 1, 1) := by decide +kernel
theorem dX10_isEvent_29 : decode cX10_isEvent 29 = .ok (.goto 4, 3) := by decide +kernel
theorem dX10_isEvent_32 : decode cX10_isEvent 32 = .ok (.iconst 0, 1) := by decide +kernel
theorem dX10_isEvent_33 : decode cX10_isEvent 33 = .ok (.ireturn, 1) := by decide +kernel
theorem dX10_ticksOf_0 : decode cX10_ticksOf 0 = .ok (.bipush 64, 2) := by decide +kernel
theorem dX10_ticksOf_2 : decode cX10_ticksOf 2 = .ok (.iload_n 0, 1) := by decide +kernel
theorem dX10_ticksOf_3 : decode cX10_ticksOf 3 = .ok (.iconst 2, 1) := by decide +kernel
theorem dX10_ticksOf_4 : decode cX10_ticksOf 4 = .ok (.idiv, 1) := by decide +kernel
theorem dX10_ticksOf_5 : decode cX10_ticksOf 5 = .ok (.ishr, 1) := by decide +kernel
theorem dX10_ticksOf_6 : decode cX10_ticksOf 6 = .ok (.istore_n 1, 1) := by decide +kernel
theorem dX10_ticksOf_7 : decode cX10_ticksOf 7 = .ok (.iload_n 0, 1) := by decide +kernel
theorem dX10_ticksOf_8 : decode cX10_ticksOf 8 = .ok (.iconst 2, 1) := by decide +kernel
theorem dX10_ticksOf_9 : decode cX10_ticksOf 9 = .ok (.irem, 1) := by decide +kernel
theorem dX10_ticksOf_10 : decode cX10_ticksOf 10 = .ok (.iconst 1, 1) := by decide +kernel
theorem dX10_ticksOf_11 : decode cX10_ticksOf 11 = .ok (.if_icmp .ne 11, 3) := by decide +kernel
theorem dX10_ticksOf_14 : decode cX10_ticksOf 14 = .ok (.iload_n 1, 1) := by decide +kernel
theorem dX10_ticksOf_15 : decode cX10_ticksOf 15 = .ok (.iload_n 1, 1) := by decide +kernel
theorem dX10_ticksOf_16 : decode cX10_ticksOf 16 = .ok (.iconst 2, 1) := by decide +kernel
theorem dX10_ticksOf_17 : decode cX10_ticksOf 17 = .ok (.idiv, 1) := by decide +kernel
theorem dX10_ticksOf_18 : decode cX10_ticksOf 18 = .ok (.iadd, 1) := by decide +kernel
theorem dX10_ticksOf_19 : decode cX10_ticksOf 19 = .ok (.goto 4, 3) := by decide +kernel
theorem dX10_ticksOf_22 : decode cX10_ticksOf 22 = .ok (.iload_n 1, 1) := by decide +kernel
theorem dX10_ticksOf_23 : decode cX10_ticksOf 23 = .ok (.ireturn, 1) := by decide +kernel
theorem dX10_lasts_0 : decode cX10_lasts 0 = .ok (.bipush 64, 2) := by decide +kernel
theorem dX10_lasts_2 : decode cX10_lasts 2 = .ok (.aload_n 0, 1) := by decide +kernel
theorem dX10_lasts_3 : decode cX10_lasts 3 = .ok (.iload_n 1, 1) := by decide +kernel
theorem dX10_lasts_4 : decode cX10_lasts 4 = .ok (.iconst 1, 1) := by decide +kernel
theorem dX10_lasts_5 : decode cX10_lasts 5 = .ok (.invokevirtual 53, 3) := by decide +kernel
theorem dX10_lasts_8 : decode cX10_lasts 8 = .ok (.imul, 1) := by decide +kernel
theorem dX10_lasts_9 : decode cX10_lasts 9 = .ok (.aload_n 0, 1) := by decide +kernel
theorem dX10_lasts_10 : decode cX10_lasts 10 = .ok (.iload_n 1, 1) := by decide +kernel
theorem dX10_lasts_11 : decode cX10_lasts 11 = .ok (.iconst 2, 1) := by decide +kernel
theorem dX10_lasts_12 : decode cX10_lasts 12 = .ok (.invokevirtual 53, 3) := by decide +kernel
theorem dX10_lasts_15 : decode cX10_lasts 15 = .ok (.idiv, 1) := by decide +kernel
theorem dX10_lasts_16 : decode cX10_lasts 16 = .ok (.ireturn, 1) := by decide +kernel
theorem dX10_ticksTo_0 : decode cX10_ticksTo 0 = .ok (.iconst 0, 1) := by decide +kernel
theorem dX10_ticksTo_1 : decode cX10_ticksTo 1 = .ok (.istore 4, 2) := by decide +kernel
theorem dX10_ticksTo_3 : decode cX10_ticksTo 3 = .ok (.iconst 0, 1) := by decide +kernel
theorem dX10_ticksTo_4 : decode cX10_ticksTo 4 = .ok (.istore 5, 2) := by decide +kernel
theorem dX10_ticksTo_6 : decode cX10_ticksTo 6 = .ok (.iload 5, 2) := by decide +kernel
theorem dX10_ticksTo_8 : decode cX10_ticksTo 8 = .ok (.iload_n 3, 1) := by decide +kernel
theorem dX10_ticksTo_9 : decode cX10_ticksTo 9 = .ok (.if_icmp .ge 31, 3) := by decide +kernel
theorem dX10_ticksTo_12 : decode cX10_ticksTo 12 = .ok (.iload 4, 2) := by decide +kernel
theorem dX10_ticksTo_14 : decode cX10_ticksTo 14 = .ok (.aload_n 0, 1) := by decide +kernel
theorem dX10_ticksTo_15 : decode cX10_ticksTo 15 = .ok (.getfield 7, 3) := by decide +kernel
theorem dX10_ticksTo_18 : decode cX10_ticksTo 18 = .ok (.iload_n 1, 1) := by decide +kernel
theorem dX10_ticksTo_19 : decode cX10_ticksTo 19 = .ok (.iload_n 2, 1) := by decide +kernel
theorem dX10_ticksTo_20 : decode cX10_ticksTo 20 = .ok (.iload 5, 2) := by decide +kernel
theorem dX10_ticksTo_22 : decode cX10_ticksTo 22 = .ok (.invokestatic 57, 3) := by decide +kernel
theorem dX10_ticksTo_25 : decode cX10_ticksTo 25 = .ok (.iconst 2, 1) := by decide +kernel
theorem dX10_ticksTo_26 : decode cX10_ticksTo 26 = .ok (.iadd, 1) := by decide +kernel
theorem dX10_ticksTo_27 : decode cX10_ticksTo 27 = .ok (.iaload, 1) := by decide +kernel
theorem dX10_ticksTo_28 : decode cX10_ticksTo 28 = .ok (.invokestatic 61, 3) := by decide +kernel
theorem dX10_ticksTo_31 : decode cX10_ticksTo 31 = .ok (.iadd, 1) := by decide +kernel
theorem dX10_ticksTo_32 : decode cX10_ticksTo 32 = .ok (.istore 4, 2) := by decide +kernel
theorem dX10_ticksTo_34 : decode cX10_ticksTo 34 = .ok (.iinc 5 1, 3) := by decide +kernel
theorem dX10_ticksTo_37 : decode cX10_ticksTo 37 = .ok (.goto (-31), 3) := by decide +kernel
theorem dX10_ticksTo_40 : decode cX10_ticksTo 40 = .ok (.iload 4, 2) := by decide +kernel
theorem dX10_ticksTo_42 : decode cX10_ticksTo 42 = .ok (.ireturn, 1) := by decide +kernel
theorem dX10_addMeasure_0 : decode cX10_addMeasure 0 = .ok (.aload_n 0, 1) := by decide +kernel
theorem dX10_addMeasure_1 : decode cX10_addMeasure 1 = .ok (.aload_n 0, 1) := by decide +kernel
theorem dX10_addMeasure_2 : decode cX10_addMeasure 2 = .ok (.getfield 7, 3) := by decide +kernel
theorem dX10_addMeasure_5 : decode cX10_addMeasure 5 = .ok (.iconst 0, 1) := by decide +kernel
theorem dX10_addMeasure_6 : decode cX10_addMeasure 6 = .ok (.iaload, 1) := by decide +kernel
theorem dX10_addMeasure_7 : decode cX10_addMeasure 7 = .ok (.bipush 16, 2) := by decide +kernel
theorem dX10_addMeasure_9 : decode cX10_addMeasure 9 = .ok (.if_icmp .ne 7, 3) := by decide +kernel
theorem dX10_addMeasure_12 : decode cX10_addMeasure 12 = .ok (.iconst 1, 1) := by decide +kernel
theorem dX10_addMeasure_13 : decode cX10_addMeasure 13 = .ok (.goto 4, 3) := by decide +kernel
theorem dX10_addMeasure_16 : decode cX10_addMeasure 16 = .ok (.iconst 0, 1) := by decide +kernel
theorem dX10_addMeasure_17 : decode cX10_addMeasure 17 = .ok (.invokevirtual 38, 3) := by decide +kernel
theorem dX10_addMeasure_20 : decode cX10_addMeasure 20 = .ok (.ifCond .eq 5, 3) := by decide +kernel
theorem dX10_addMeasure_23 : decode cX10_addMeasure 23 = .ok (.iconst 0, 1) := by decide +kernel
theorem dX10_addMeasure_24 : decode cX10_addMeasure 24 = .ok (.ireturn, 1) := by decide +kernel
theorem dX10_addMeasure_25 : decode cX10_addMeasure 25 = .ok (.aload_n 0, 1) := by decide +kernel
theorem dX10_addMeasure_26 : decode cX10_addMeasure 26 = .ok (.invokevirtual 65, 3) := by decide +kernel
theorem dX10_addMeasure_29 : decode cX10_addMeasure 29 = .ok (.aload_n 0, 1) := by decide +kernel
theorem dX10_addMeasure_30 : decode cX10_addMeasure 30 = .ok (.getfield 7, 3) := by decide +kernel
theorem dX10_addMeasure_33 : decode cX10_addMeasure 33 = .ok (.iconst 0, 1) := by decide +kernel
theorem dX10_addMeasure_34 : decode cX10_addMeasure 34 = .ok (.iaload, 1) := by decide +kernel
theorem dX10_addMeasure_35 : decode cX10_addMeasure 35 = .ok (.istore_n 1, 1) := by decide +kernel
theorem dX10_addMeasure_36 : decode cX10_addMeasure 36 = .ok (.iconst 0, 1) := by decide +kernel
theorem dX10_addMeasure_37 : decode cX10_addMeasure 37 = .ok (.istore_n 2, 1) := by decide +kernel
theorem dX10_addMeasure_38 : decode cX10_addMeasure 38 = .ok (.iload_n 2, 1) := by decide +kernel
theorem dX10_addMeasure_39 : decode cX10_addMeasure 39 = .ok (.sipush 201, 3) := by decide +kernel
theorem dX10_addMeasure_42 : decode cX10_addMeasure 42 = .ok (.if_icmp .ge 21, 3) := by decide +kernel
theorem dX10_addMeasure_45 : decode cX10_addMeasure 45 = .ok (.aload_n 0, 1) := by decide +kernel
theorem dX10_addMeasure_46 : decode cX10_addMeasure 46 = .ok (.getfield 7, 3) := by decide +kernel
theorem dX10_addMeasure_49 : decode cX10_addMeasure 49 = .ok (.iload_n 1, 1) := by decide +kernel
theorem dX10_addMeasure_50 : decode cX10_addMeasure 50 = .ok (.invokestatic 68, 3) := by decide +kernel
theorem dX10_addMeasure_53 : decode cX10_addMeasure 53 = .ok (.iload_n 2, 1) := by decide +kernel
theorem dX10_addMeasure_54 : decode cX10_addMeasure 54 = .ok (.iadd, 1) := by decide +kernel
theorem dX10_addMeasure_55 : decode cX10_addMeasure 55 = .ok (.iconst 0, 1) := by decide +kernel
theorem dX10_addMeasure_56 : decode cX10_addMeasure 56 = .ok (.iastore, 1) := by decide +kernel
theorem dX10_addMeasure_57 : decode cX10_addMeasure 57 = .ok (.iinc 2 1, 3) := by decide +kernel
theorem dX10_addMeasure_60 : decode cX10_addMeasure 60 = .ok (.goto (-22), 3) := by decide +kernel
theorem dX10_addMeasure_63 : decode cX10_addMeasure 63 = .ok (.iconst 0, 1) := by decide +kernel
theorem dX10_addMeasure_64 : decode cX10_addMeasure 64 = .ok (.istore_n 2, 1) := by decide +kernel
theorem dX10_addMeasure_65 : decode cX10_addMeasure 65 = .ok (.iload_n 2, 1) := by decide +kernel
theorem dX10_addMeasure_66 : decode cX10_addMeasure 66 = .ok (.iconst 3, 1) := by decide +kernel
theorem dX10_addMeasure_67 : decode cX10_addMeasure 67 = .ok (.if_icmp .gt 54, 3) := by decide +kernel
theorem dX10_addMeasure_70 : decode cX10_addMeasure 70 = .ok (.aload_n 0, 1) := by decide +kernel
theorem dX10_addMeasure_71 : decode cX10_addMeasure 71 = .ok (.getfield 7, 3) := by decide +kernel
theorem dX10_addMeasure_74 : decode cX10_addMeasure 74 = .ok (.iload_n 1, 1) := by decide +kernel
theorem dX10_addMeasure_75 : decode cX10_addMeasure 75 = .ok (.invokestatic 68, 3) := by decide +kernel
theorem dX10_addMeasure_78 : decode cX10_addMeasure 78 = .ok (.iload_n 2, 1) := by decide +kernel
theorem dX10_addMeasure_79 : decode cX10_addMeasure 79 = .ok (.iadd, 1) := by decide +kernel
theorem dX10_addMeasure_80 : decode cX10_addMeasure 80 = .ok (.iload_n 1, 1) := by decide +kernel
theorem dX10_addMeasure_81 : decode cX10_addMeasure 81 = .ok (.ifCond .le 14, 3) := by decide +kernel
theorem dX10_addMeasure_84 : decode cX10_addMeasure 84 = .ok (.aload_n 0, 1) := by decide +kernel
theorem dX10_addMeasure_85 : decode cX10_addMeasure 85 = .ok (.iload_n 1, 1) := by decide +kernel
theorem dX10_addMeasure_86 : decode cX10_addMeasure 86 = .ok (.iconst 1, 1) := by decide +kernel
theorem dX10_addMeasure_87 : decode cX10_addMeasure 87 = .ok (.isub, 1) := by decide +kernel
theorem dX10_addMeasure_88 : decode cX10_addMeasure 88 = .ok (.iload_n 2, 1) := by decide +kernel
theorem dX10_addMeasure_89 : decode cX10_addMeasure 89 = .ok (.invokevirtual 53, 3) := by decide +kernel
theorem dX10_addMeasure_92 : decode cX10_addMeasure 92 = .ok (.goto 22, 3) := by decide +kernel
theorem dX10_addMeasure_95 : decode cX10_addMeasure 95 = .ok (.iload_n 2, 1) := by decide +kernel
theorem dX10_addMeasure_96 : decode cX10_addMeasure 96 = .ok (.ifCond .ne 7, 3) := by decide +kernel
theorem dX10_addMeasure_99 : decode cX10_addMeasure 99 = .ok (.iconst 0, 1) := by decide +kernel
theorem dX10_addMeasure_100 : decode cX10_addMeasure 100 = .ok (.goto 14, 3) := by decide +kernel
theorem dX10_addMeasure_103 : decode cX10_addMeasure 103 = .ok (.iload_n 2, 1) := by decide +kernel
theorem dX10_addMeasure_104 : decode cX10_addMeasure 104 = .ok (.iconst 3, 1) := by decide +kernel
theorem dX10_addMeasure_105 : decode cX10_addMeasure 105 = .ok (.if_icmp .ne 8, 3) := by decide +kernel
theorem dX10_addMeasure_108 : decode cX10_addMeasure 108 = .ok (.bipush 120, 2) := by decide +kernel
theorem dX10_addMeasure_110 : decode cX10_addMeasure 110 = .ok (.goto 4, 3) := by decide +kernel
theorem dX10_addMeasure_113 : decode cX10_addMeasure 113 = .ok (.iconst 4, 1) := by decide +kernel
theorem dX10_addMeasure_114 : decode cX10_addMeasure 114 = .ok (.iastore, 1) := by decide +kernel
theorem dX10_addMeasure_115 : decode cX10_addMeasure 115 = .ok (.iinc 2 1, 3) := by decide +kernel
theorem dX10_addMeasure_118 : decode cX10_addMeasure 118 = .ok (.goto (-53), 3) := by decide +kernel
theorem dX10_addMeasure_121 : decode cX10_addMeasure 121 = .ok (.aload_n 0, 1) := by decide +kernel
theorem dX10_addMeasure_122 : decode cX10_addMeasure 122 = .ok (.getfield 7, 3) := by decide +kernel
theorem dX10_addMeasure_125 : decode cX10_addMeasure 125 = .ok (.iconst 0, 1) := by decide +kernel
theorem dX10_addMeasure_126 : decode cX10_addMeasure 126 = .ok (.dup2, 1) := by decide +kernel
theorem dX10_addMeasure_127 : decode cX10_addMeasure 127 = .ok (.iaload, 1) := by decide +kernel
theorem dX10_addMeasure_128 : decode cX10_addMeasure 128 = .ok (.iconst 1, 1) := by decide +kernel
theorem dX10_addMeasure_129 : decode cX10_addMeasure 129 = .ok (.iadd, 1) := by decide +kernel
theorem dX10_addMeasure_130 : decode cX10_addMeasure 130 = .ok (.iastore, 1) := by decide +kernel
theorem dX10_addMeasure_131 : decode cX10_addMeasure 131 = .ok (.iload_n 1, 1) := by decide +kernel
theorem dX10_addMeasure_132 : decode cX10_addMeasure 132 = .ok (.ireturn, 1) := by decide +kernel
theorem dX10_removeMeasure_0 : decode cX10_removeMeasure 0 = .ok (.aload_n 0, 1) := by decide +kernel
theorem dX10_removeMeasure_1 : decode cX10_removeMeasure 1 = .ok (.aload_n 0, 1) := by decide +kernel
theorem dX10_removeMeasure_2 : decode cX10_removeMeasure 2 = .ok (.iload_n 1, 1) := by decide +kernel
theorem dX10_removeMeasure_3 : decode cX10_removeMeasure 3 = .ok (.invokevirtual 46, 3) := by decide +kernel
theorem dX10_removeMeasure_6 : decode cX10_removeMeasure 6 = .ok (.ifCond .eq 7, 3) := by decide +kernel
theorem dX10_removeMeasure_9 : decode cX10_removeMeasure 9 = .ok (.iconst 0, 1) := by decide +kernel
theorem dX10_removeMeasure_10 : decode cX10_removeMeasure 10 = .ok (.goto 4, 3) := by decide +kernel
theorem dX10_removeMeasure_13 : decode cX10_removeMeasure 13 = .ok (.iconst 1, 1) := by decide +kernel
theorem dX10_removeMeasure_14 : decode cX10_removeMeasure 14 = .ok (.invokevirtual 38, 3) := by decide +kernel
theorem dX10_removeMeasure_17 : decode cX10_removeMeasure 17 = .ok (.ifCond .eq 5, 3) := by decide +kernel
theorem dX10_removeMeasure_20 : decode cX10_removeMeasure 20 = .ok (.iconst 0, 1) := by decide +kernel
theorem dX10_removeMeasure_21 : decode cX10_removeMeasure 21 = .ok (.ireturn, 1) := by decide +kernel
theorem dX10_removeMeasure_22 : decode cX10_removeMeasure 22 = .ok (.aload_n 0, 1) := by decide +kernel
theorem dX10_removeMeasure_23 : decode cX10_removeMeasure 23 = .ok (.invokevirtual 65, 3) := by decide +kernel
theorem dX10_removeMeasure_26 : decode cX10_removeMeasure 26 = .ok (.aload_n 0, 1) := by decide +kernel
theorem dX10_removeMeasure_27 : decode cX10_removeMeasure 27 = .ok (.getfield 7, 3) := by decide +kernel
theorem dX10_removeMeasure_30 : decode cX10_removeMeasure 30 = .ok (.iconst 0, 1) := by decide +kernel
theorem dX10_removeMeasure_31 : decode cX10_removeMeasure 31 = .ok (.dup2, 1) := by decide +kernel
theorem dX10_removeMeasure_32 : decode cX10_removeMeasure 32 = .ok (.iaload, 1) := by decide +kernel
theorem dX10_removeMeasure_33 : decode cX10_removeMeasure 33 = .ok (.iconst 1, 1) := by decide +kernel
theorem dX10_removeMeasure_34 : decode cX10_removeMeasure 34 = .ok (.isub, 1) := by decide +kernel
theorem dX10_removeMeasure_35 : decode cX10_removeMeasure 35 = .ok (.iastore, 1) := by decide +kernel
theorem dX10_removeMeasure_36 : decode cX10_removeMeasure 36 = .ok (.iload_n 1, 1) := by decide +kernel
theorem dX10_removeMeasure_37 : decode cX10_removeMeasure 37 = .ok (.invokestatic 68, 3) := by decide +kernel
theorem dX10_removeMeasure_40 : decode cX10_removeMeasure 40 = .ok (.istore_n 2, 1) := by decide +kernel
theorem dX10_removeMeasure_41 : decode cX10_removeMeasure 41 = .ok (.iload_n 2, 1) := by decide +kernel
theorem dX10_removeMeasure_42 : decode cX10_removeMeasure 42 = .ok (.aload_n 0, 1) := by decide +kernel
theorem dX10_removeMeasure_43 : decode cX10_removeMeasure 43 = .ok (.getfield 7, 3) := by decide +kernel
theorem dX10_removeMeasure_46 : decode cX10_removeMeasure 46 = .ok (.iconst 0, 1) := by decide +kernel
theorem dX10_removeMeasure_47 : decode cX10_removeMeasure 47 = .ok (.iaload, 1) := by decide +kernel
theorem dX10_removeMeasure_48 : decode cX10_removeMeasure 48 = .ok (.invokestatic 68, 3) := by decide +kernel
theorem dX10_removeMeasure_51 : decode cX10_removeMeasure 51 = .ok (.if_icmp .ge 25, 3) := by decide +kernel
theorem dX10_removeMeasure_54 : decode cX10_removeMeasure 54 = .ok (.aload_n 0, 1) := by decide +kernel
theorem dX10_removeMeasure_55 : decode cX10_removeMeasure 55 = .ok (.getfield 7, 3) := by decide +kernel
theorem dX10_removeMeasure_58 : decode cX10_removeMeasure 58 = .ok (.iload_n 2, 1) := by decide +kernel
theorem dX10_removeMeasure_59 : decode cX10_removeMeasure 59 = .ok (.aload_n 0, 1) := by decide +kernel
theorem dX10_removeMeasure_60 : decode cX10_removeMeasure 60 = .ok (.getfield 7, 3) := by decide +kernel
theorem dX10_removeMeasure_63 : decode cX10_removeMeasure 63 = .ok (.iload_n 2, 1) := by decide +kernel
theorem dX10_removeMeasure_64 : decode cX10_removeMeasure 64 = .ok (.sipush 201, 3) := by decide +kernel
theorem dX10_removeMeasure_67 : decode cX10_removeMeasure 67 = .ok (.iadd, 1) := by decide +kernel
theorem dX10_removeMeasure_68 : decode cX10_removeMeasure 68 = .ok (.iaload, 1) := by decide +kernel
theorem dX10_removeMeasure_69 : decode cX10_removeMeasure 69 = .ok (.iastore, 1) := by decide +kernel
theorem dX10_removeMeasure_70 : decode cX10_removeMeasure 70 = .ok (.iinc 2 1, 3) := by decide +kernel
theorem dX10_removeMeasure_73 : decode cX10_removeMeasure 73 = .ok (.goto (-32), 3) := by decide +kernel
theorem dX10_removeMeasure_76 : decode cX10_removeMeasure 76 = .ok (.aload_n 0, 1) := by decide +kernel
theorem dX10_removeMeasure_77 : decode cX10_removeMeasure 77 = .ok (.getfield 7, 3) := by decide +kernel
theorem dX10_removeMeasure_80 : decode cX10_removeMeasure 80 = .ok (.iconst 0, 1) := by decide +kernel
theorem dX10_removeMeasure_81 : decode cX10_removeMeasure 81 = .ok (.iaload, 1) := by decide +kernel
theorem dX10_removeMeasure_82 : decode cX10_removeMeasure 82 = .ok (.ireturn, 1) := by decide +kernel
theorem dX10_isLower_0 : decode cX10_isLower 0 = .ok (.iload_n 0, 1) := by decide +kernel
theorem dX10_isLower_1 : decode cX10_isLower 1 = .ok (.iconst 2, 1) := by decide +kernel
theorem dX10_isLower_2 : decode cX10_isLower 2 = .ok (.if_icmp .eq 20, 3) := by decide +kernel
theorem dX10_isLower_5 : decode cX10_isLower 5 = .ok (.iload_n 0, 1) := by decide +kernel
theorem dX10_isLower_6 : decode cX10_isLower 6 = .ok (.iconst 4, 1) := by decide +kernel
theorem dX10_isLower_7 : decode cX10_isLower 7 = .ok (.if_icmp .eq 15, 3) := by decide +kernel
theorem dX10_isLower_10 : decode cX10_isLower 10 = .ok (.iload_n 0, 1) := by decide +kernel
theorem dX10_isLower_11 : decode cX10_isLower 11 = .ok (.bipush 8, 2) := by decide +kernel
theorem dX10_isLower_13 : decode cX10_isLower 13 = .ok (.if_icmp .eq 9, 3) := by decide +kernel
theorem dX10_isLower_16 : decode cX10_isLower 16 = .ok (.iload_n 0, 1) := by decide +kernel
theorem dX10_isLower_17 : decode cX10_isLower 17 = .ok (.bipush 16, 2) := by decide +kernel
theorem dX10_isLower_19 : decode cX10_isLower 19 = .ok (.if_icmp .ne 7, 3) := by decide +kernel
theorem dX10_isLower_22 : decode cX10_isLower 22 = .ok (.iconst 1, 1) := by decide +kernel
theorem dX10_isLower_23 : decode cX10_isLower 23 = .ok (.goto 4, 3) := by decide +kernel
theorem dX10_isLower_26 : decode cX10_isLower 26 = .ok (.iconst 0, 1) := by decide +kernel
theorem dX10_isLower_27 : decode cX10_isLower 27 = .ok (.ireturn, 1) := by decide +kernel
theorem dX10_canBe_0 : decode cX10_canBe 0 = .ok (.iload_n 0, 1) := by decide +kernel
theorem dX10_canBe_1 : decode cX10_canBe 1 = .ok (.tableswitch 97 0 5 #[39, 48, 56, 61, 71, 78], 39) := by decide +kernel
theorem dX10_canBe_40 : decode cX10_canBe 40 = .ok (.iload_n 1, 1) := by decide +kernel
theorem dX10_canBe_41 : decode cX10_canBe 41 = .ok (.bipush (-7), 2) := by decide +kernel
theorem dX10_canBe_43 : decode cX10_canBe 43 = .ok (.bipush 7, 2) := by decide +kernel
theorem dX10_canBe_45 : decode cX10_canBe 45 = .ok (.invokestatic 42, 3) := by decide +kernel
theorem dX10_canBe_48 : decode cX10_canBe 48 = .ok (.ireturn, 1) := by decide +kernel
theorem dX10_canBe_49 : decode cX10_canBe 49 = .ok (.iload_n 1, 1) := by decide +kernel
theorem dX10_canBe_50 : decode cX10_canBe 50 = .ok (.iconst 1, 1) := by decide +kernel
theorem dX10_canBe_51 : decode cX10_canBe 51 = .ok (.bipush 12, 2) := by decide +kernel
theorem dX10_canBe_53 : decode cX10_canBe 53 = .ok (.invokestatic 42, 3) := by decide +kernel
theorem dX10_canBe_56 : decode cX10_canBe 56 = .ok (.ireturn, 1) := by decide +kernel
theorem dX10_canBe_57 : decode cX10_canBe 57 = .ok (.iload_n 1, 1) := by decide +kernel
theorem dX10_canBe_58 : decode cX10_canBe 58 = .ok (.invokestatic 71, 3) := by decide +kernel
theorem dX10_canBe_61 : decode cX10_canBe 61 = .ok (.ireturn, 1) := by decide +kernel
theorem dX10_canBe_62 : decode cX10_canBe 62 = .ok (.iload_n 1, 1) := by decide +kernel
theorem dX10_canBe_63 : decode cX10_canBe 63 = .ok (.bipush 20, 2) := by decide +kernel
theorem dX10_canBe_65 : decode cX10_canBe 65 = .ok (.sipush 300, 3) := by decide +kernel
theorem dX10_canBe_68 : decode cX10_canBe 68 = .ok (.invokestatic 42, 3) := by decide +kernel
theorem dX10_canBe_71 : decode cX10_canBe 71 = .ok (.ireturn, 1) := by decide +kernel
theorem dX10_canBe_72 : decode cX10_canBe 72 = .ok (.iload_n 1, 1) := by decide +kernel
theorem dX10_canBe_73 : decode cX10_canBe 73 = .ok (.iconst 0, 1) := by decide +kernel
theorem dX10_canBe_74 : decode cX10_canBe 74 = .ok (.iconst 1, 1) := by decide +kernel
theorem dX10_canBe_75 : decode cX10_canBe 75 = .ok (.invokestatic 42, 3) := by decide +kernel
theorem dX10_canBe_78 : decode cX10_canBe 78 = .ok (.ireturn, 1) := by decide +kernel
theorem dX10_canBe_79 : decode cX10_canBe 79 = .ok (.iload_n 1, 1) := by decide +kernel
theorem dX10_canBe_80 : decode cX10_canBe 80 = .ok (.ifCond .eq 12, 3) := by decide +kernel
theorem dX10_canBe_83 : decode cX10_canBe 83 = .ok (.iload_n 1, 1) := by decide +kernel
theorem dX10_canBe_84 : decode cX10_canBe 84 = .ok (.iconst 2, 1) := by decide +kernel
theorem dX10_canBe_85 : decode cX10_canBe 85 = .ok (.iconst 4, 1) := by decide +kernel
theorem dX10_canBe_86 : decode cX10_canBe 86 = .ok (.invokestatic 42, 3) := by decide +kernel
theorem dX10_canBe_89 : decode cX10_canBe 89 = .ok (.ifCond .eq 7, 3) := by decide +kernel
theorem dX10_canBe_92 : decode cX10_canBe 92 = .ok (.iconst 1, 1) := by decide +kernel
theorem dX10_canBe_93 : decode cX10_canBe 93 = .ok (.goto 4, 3) := by decide +kernel
theorem dX10_canBe_96 : decode cX10_canBe 96 = .ok (.iconst 0, 1) := by decide +kernel
theorem dX10_canBe_97 : decode cX10_canBe 97 = .ok (.ireturn, 1) := by decide +kernel
theorem dX10_canBe_98 : decode cX10_canBe 98 = .ok (.iload_n 0, 1) := by decide +kernel
theorem dX10_canBe_99 : decode cX10_canBe 99 = .ok (.bipush 6, 2) := by decide +kernel
theorem dX10_canBe_101 : decode cX10_canBe 101 = .ok (.if_icmp .ne 16, 3) := by decide +kernel
theorem dX10_canBe_104 : decode cX10_canBe 104 = .ok (.iload_n 1, 1) := by decide +kernel
theorem dX10_canBe_105 : decode cX10_canBe 105 = .ok (.iconst 0, 1) := by decide +kernel
theorem dX10_canBe_106 : decode cX10_canBe 106 = .ok (.iconst 4, 1) := by decide +kernel
theorem dX10_canBe_107 : decode cX10_canBe 107 = .ok (.invokestatic 42, 3) := by decide +kernel
theorem dX10_canBe_110 : decode cX10_canBe 110 = .ok (.ifCond .eq 7, 3) := by decide +kernel
theorem dX10_canBe_113 : decode cX10_canBe 113 = .ok (.iconst 1, 1) := by decide +kernel
theorem dX10_canBe_114 : decode cX10_canBe 114 = .ok (.goto 4, 3) := by decide +kernel
theorem dX10_canBe_117 : decode cX10_canBe 117 = .ok (.iconst 0, 1) := by decide +kernel
theorem dX10_canBe_118 : decode cX10_canBe 118 = .ok (.ireturn, 1) := by decide +kernel
theorem dX10_set_0 : decode cX10_set 0 = .ok (.aload_n 0, 1) := by decide +kernel
theorem dX10_set_1 : decode cX10_set 1 = .ok (.aload_n 0, 1) := by decide +kernel
theorem dX10_set_2 : decode cX10_set 2 = .ok (.iload_n 1, 1) := by decide +kernel
theorem dX10_set_3 : decode cX10_set 3 = .ok (.invokevirtual 46, 3) := by decide +kernel
theorem dX10_set_6 : decode cX10_set 6 = .ok (.ifCond .ne 7, 3) := by decide +kernel
theorem dX10_set_9 : decode cX10_set 9 = .ok (.iconst 1, 1) := by decide +kernel
theorem dX10_set_10 : decode cX10_set 10 = .ok (.goto 16, 3) := by decide +kernel
theorem dX10_set_13 : decode cX10_set 13 = .ok (.iload_n 2, 1) := by decide +kernel
theorem dX10_set_14 : decode cX10_set 14 = .ok (.iload_n 3, 1) := by decide +kernel
theorem dX10_set_15 : decode cX10_set 15 = .ok (.invokestatic 74, 3) := by decide +kernel
theorem dX10_set_18 : decode cX10_set 18 = .ok (.ifCond .eq 7, 3) := by decide +kernel
theorem dX10_set_21 : decode cX10_set 21 = .ok (.iconst 0, 1) := by decide +kernel
theorem dX10_set_22 : decode cX10_set 22 = .ok (.goto 4, 3) := by decide +kernel
theorem dX10_set_25 : decode cX10_set 25 = .ok (.iconst 2, 1) := by decide +kernel
theorem dX10_set_26 : decode cX10_set 26 = .ok (.invokevirtual 38, 3) := by decide +kernel
theorem dX10_set_29 : decode cX10_set 29 = .ok (.ifCond .eq 5, 3) := by decide +kernel
theorem dX10_set_32 : decode cX10_set 32 = .ok (.iconst 0, 1) := by decide +kernel
theorem dX10_set_33 : decode cX10_set 33 = .ok (.ireturn, 1) := by decide +kernel
theorem dX10_set_34 : decode cX10_set 34 = .ok (.aload_n 0, 1) := by decide +kernel
theorem dX10_set_35 : decode cX10_set 35 = .ok (.invokevirtual 65, 3) := by decide +kernel
theorem dX10_set_38 : decode cX10_set 38 = .ok (.aload_n 0, 1) := by decide +kernel
theorem dX10_set_39 : decode cX10_set 39 = .ok (.iload_n 1, 1) := by decide +kernel
theorem dX10_set_40 : decode cX10_set 40 = .ok (.iload_n 2, 1) := by decide +kernel
theorem dX10_set_41 : decode cX10_set 41 = .ok (.invokevirtual 53, 3) := by decide +kernel
theorem dX10_set_44 : decode cX10_set 44 = .ok (.istore 4, 2) := by decide +kernel
theorem dX10_set_46 : decode cX10_set 46 = .ok (.aload_n 0, 1) := by decide +kernel
theorem dX10_set_47 : decode cX10_set 47 = .ok (.getfield 7, 3) := by decide +kernel
theorem dX10_set_50 : decode cX10_set 50 = .ok (.iload_n 1, 1) := by decide +kernel
theorem dX10_set_51 : decode cX10_set 51 = .ok (.invokestatic 68, 3) := by decide +kernel
theorem dX10_set_54 : decode cX10_set 54 = .ok (.iload_n 2, 1) := by decide +kernel
theorem dX10_set_55 : decode cX10_set 55 = .ok (.iadd, 1) := by decide +kernel
theorem dX10_set_56 : decode cX10_set 56 = .ok (.iload_n 3, 1) := by decide +kernel
theorem dX10_set_57 : decode cX10_set 57 = .ok (.iastore, 1) := by decide +kernel
theorem dX10_set_58 : decode cX10_set 58 = .ok (.iload 4, 2) := by decide +kernel
theorem dX10_set_60 : decode cX10_set 60 = .ok (.ireturn, 1) := by decide +kernel
theorem dX10_comes_0 : decode cX10_comes 0 = .ok (.aload_n 0, 1) := by decide +kernel
theorem dX10_comes_1 : decode cX10_comes 1 = .ok (.invokevirtual 65, 3) := by decide +kernel
theorem dX10_comes_4 : decode cX10_comes 4 = .ok (.iload_n 1, 1) := by decide +kernel
theorem dX10_comes_5 : decode cX10_comes 5 = .ok (.iload_n 2, 1) := by decide +kernel
theorem dX10_comes_6 : decode cX10_comes 6 = .ok (.aload_n 0, 1) := by decide +kernel
theorem dX10_comes_7 : decode cX10_comes 7 = .ok (.iload_n 1, 1) := by decide +kernel
theorem dX10_comes_8 : decode cX10_comes 8 = .ok (.bipush 7, 2) := by decide +kernel
theorem dX10_comes_10 : decode cX10_comes 10 = .ok (.iload_n 2, 1) := by decide +kernel
theorem dX10_comes_11 : decode cX10_comes 11 = .ok (.iadd, 1) := by decide +kernel
theorem dX10_comes_12 : decode cX10_comes 12 = .ok (.invokevirtual 53, 3) := by decide +kernel
theorem dX10_comes_15 : decode cX10_comes 15 = .ok (.invokestatic 57, 3) := by decide +kernel
theorem dX10_comes_18 : decode cX10_comes 18 = .ok (.istore 7, 2) := by decide +kernel
theorem dX10_comes_20 : decode cX10_comes 20 = .ok (.aload_n 0, 1) := by decide +kernel
theorem dX10_comes_21 : decode cX10_comes 21 = .ok (.getfield 7, 3) := by decide +kernel
theorem dX10_comes_24 : decode cX10_comes 24 = .ok (.iload 7, 2) := by decide +kernel
theorem dX10_comes_26 : decode cX10_comes 26 = .ok (.iconst 0, 1) := by decide +kernel
theorem dX10_comes_27 : decode cX10_comes 27 = .ok (.iadd, 1) := by decide +kernel
theorem dX10_comes_28 : decode cX10_comes 28 = .ok (.iload_n 3, 1) := by decide +kernel
theorem dX10_comes_29 : decode cX10_comes 29 = .ok (.iastore, 1) := by decide +kernel
theorem dX10_comes_30 : decode cX10_comes 30 = .ok (.aload_n 0, 1) := by decide +kernel
theorem dX10_comes_31 : decode cX10_comes 31 = .ok (.getfield 7, 3) := by decide +kernel
theorem dX10_comes_34 : decode cX10_comes 34 = .ok (.iload 7, 2) := by decide +kernel
theorem dX10_comes_36 : decode cX10_comes 36 = .ok (.iconst 1, 1) := by decide +kernel
theorem dX10_comes_37 : decode cX10_comes 37 = .ok (.iadd, 1) := by decide +kernel
theorem dX10_comes_38 : decode cX10_comes 38 = .ok (.iload 4, 2) := by decide +kernel
theorem dX10_comes_40 : decode cX10_comes 40 = .ok (.iastore, 1) := by decide +kernel
theorem dX10_comes_41 : decode cX10_comes 41 = .ok (.aload_n 0, 1) := by decide +kernel
theorem dX10_comes_42 : decode cX10_comes 42 = .ok (.getfield 7, 3) := by decide +kernel
theorem dX10_comes_45 : decode cX10_comes 45 = .ok (.iload 7, 2) := by decide +kernel
theorem dX10_comes_47 : decode cX10_comes 47 = .ok (.iconst 2, 1) := by decide +kernel
theorem dX10_comes_48 : decode cX10_comes 48 = .ok (.iadd, 1) := by decide +kernel
theorem dX10_comes_49 : decode cX10_comes 49 = .ok (.iload 5, 2) := by decide +kernel
theorem dX10_comes_51 : decode cX10_comes 51 = .ok (.iastore, 1) := by decide +kernel
theorem dX10_comes_52 : decode cX10_comes 52 = .ok (.aload_n 0, 1) := by decide +kernel
theorem dX10_comes_53 : decode cX10_comes 53 = .ok (.getfield 7, 3) := by decide +kernel
theorem dX10_comes_56 : decode cX10_comes 56 = .ok (.iload 7, 2) := by decide +kernel
theorem dX10_comes_58 : decode cX10_comes 58 = .ok (.iconst 3, 1) := by decide +kernel
theorem dX10_comes_59 : decode cX10_comes 59 = .ok (.iadd, 1) := by decide +kernel
theorem dX10_comes_60 : decode cX10_comes 60 = .ok (.iload 6, 2) := by decide +kernel
theorem dX10_comes_62 : decode cX10_comes 62 = .ok (.iastore, 1) := by decide +kernel
theorem dX10_comes_63 : decode cX10_comes 63 = .ok (.aload_n 0, 1) := by decide +kernel
theorem dX10_comes_64 : decode cX10_comes 64 = .ok (.getfield 7, 3) := by decide +kernel
theorem dX10_comes_67 : decode cX10_comes 67 = .ok (.iload_n 1, 1) := by decide +kernel
theorem dX10_comes_68 : decode cX10_comes 68 = .ok (.invokestatic 68, 3) := by decide +kernel
theorem dX10_comes_71 : decode cX10_comes 71 = .ok (.bipush 7, 2) := by decide +kernel
theorem dX10_comes_73 : decode cX10_comes 73 = .ok (.iadd, 1) := by decide +kernel
theorem dX10_comes_74 : decode cX10_comes 74 = .ok (.iload_n 2, 1) := by decide +kernel
theorem dX10_comes_75 : decode cX10_comes 75 = .ok (.iadd, 1) := by decide +kernel
theorem dX10_comes_76 : decode cX10_comes 76 = .ok (.dup2, 1) := by decide +kernel
theorem dX10_comes_77 : decode cX10_comes 77 = .ok (.iaload, 1) := by decide +kernel
theorem dX10_comes_78 : decode cX10_comes 78 = .ok (.iconst 1, 1) := by decide +kernel
theorem dX10_comes_79 : decode cX10_comes 79 = .ok (.iadd, 1) := by decide +kernel
theorem dX10_comes_80 : decode cX10_comes 80 = .ok (.iastore, 1) := by decide +kernel
theorem dX10_comes_81 : decode cX10_comes 81 = .ok (.aload_n 0, 1) := by decide +kernel
theorem dX10_comes_82 : decode cX10_comes 82 = .ok (.iload_n 1, 1) := by decide +kernel
theorem dX10_comes_83 : decode cX10_comes 83 = .ok (.bipush 7, 2) := by decide +kernel
theorem dX10_comes_85 : decode cX10_comes 85 = .ok (.iload_n 2, 1) := by decide +kernel
theorem dX10_comes_86 : decode cX10_comes 86 = .ok (.iadd, 1) := by decide +kernel
theorem dX10_comes_87 : decode cX10_comes 87 = .ok (.invokevirtual 53, 3) := by decide +kernel
theorem dX10_comes_90 : decode cX10_comes 90 = .ok (.ireturn, 1) := by decide +kernel
theorem dX10_full_0 : decode cX10_full 0 = .ok (.aload_n 0, 1) := by decide +kernel
theorem dX10_full_1 : decode cX10_full 1 = .ok (.iload_n 1, 1) := by decide +kernel
theorem dX10_full_2 : decode cX10_full 2 = .ok (.bipush 7, 2) := by decide +kernel
theorem dX10_full_4 : decode cX10_full 4 = .ok (.iload_n 2, 1) := by decide +kernel
theorem dX10_full_5 : decode cX10_full 5 = .ok (.iadd, 1) := by decide +kernel
theorem dX10_full_6 : decode cX10_full 6 = .ok (.invokevirtual 53, 3) := by decide +kernel
theorem dX10_full_9 : decode cX10_full 9 = .ok (.bipush 24, 2) := by decide +kernel
theorem dX10_full_11 : decode cX10_full 11 = .ok (.if_icmp .ne 7, 3) := by decide +kernel
theorem dX10_full_14 : decode cX10_full 14 = .ok (.iconst 3, 1) := by decide +kernel
theorem dX10_full_15 : decode cX10_full 15 = .ok (.goto 4, 3) := by decide +kernel
theorem dX10_full_18 : decode cX10_full 18 = .ok (.iconst 0, 1) := by decide +kernel
theorem dX10_full_19 : decode cX10_full 19 = .ok (.ireturn, 1) := by decide +kernel
theorem dX10_addNote_0 : decode cX10_addNote 0 = .ok (.iload_n 3, 1) := by decide +kernel
theorem dX10_addNote_1 : decode cX10_addNote 1 = .ok (.iconst 0, 1) := by decide +kernel
theorem dX10_addNote_2 : decode cX10_addNote 2 = .ok (.bipush 62, 2) := by decide +kernel
theorem dX10_addNote_4 : decode cX10_addNote 4 = .ok (.invokestatic 42, 3) := by decide +kernel
theorem dX10_addNote_7 : decode cX10_addNote 7 = .ok (.ifCond .eq 28, 3) := by decide +kernel
theorem dX10_addNote_10 : decode cX10_addNote 10 = .ok (.iload 4, 2) := by decide +kernel
theorem dX10_addNote_12 : decode cX10_addNote 12 = .ok (.iconst 0, 1) := by decide +kernel
theorem dX10_addNote_13 : decode cX10_addNote 13 = .ok (.iconst 3, 1) := by decide +kernel
theorem dX10_addNote_14 : decode cX10_addNote 14 = .ok (.invokestatic 42, 3) := by decide +kernel
theorem dX10_addNote_17 : decode cX10_addNote 17 = .ok (.ifCond .eq 18, 3) := by decide +kernel
theorem dX10_addNote_20 : decode cX10_addNote 20 = .ok (.iload 5, 2) := by decide +kernel
theorem dX10_addNote_22 : decode cX10_addNote 22 = .ok (.iconst 0, 1) := by decide +kernel
theorem dX10_addNote_23 : decode cX10_addNote 23 = .ok (.bipush 9, 2) := by decide +kernel
theorem dX10_addNote_25 : decode cX10_addNote 25 = .ok (.invokestatic 42, 3) := by decide +kernel
theorem dX10_addNote_28 : decode cX10_addNote 28 = .ok (.ifCond .eq 7, 3) := by decide +kernel
theorem dX10_addNote_31 : decode cX10_addNote 31 = .ok (.iconst 1, 1) := by decide +kernel
theorem dX10_addNote_32 : decode cX10_addNote 32 = .ok (.goto 4, 3) := by decide +kernel
theorem dX10_addNote_35 : decode cX10_addNote 35 = .ok (.iconst 0, 1) := by decide +kernel
theorem dX10_addNote_36 : decode cX10_addNote 36 = .ok (.istore 7, 2) := by decide +kernel
theorem dX10_addNote_38 : decode cX10_addNote 38 = .ok (.aload_n 0, 1) := by decide +kernel
theorem dX10_addNote_39 : decode cX10_addNote 39 = .ok (.aload_n 0, 1) := by decide +kernel
theorem dX10_addNote_40 : decode cX10_addNote 40 = .ok (.iload_n 1, 1) := by decide +kernel
theorem dX10_addNote_41 : decode cX10_addNote 41 = .ok (.iload_n 2, 1) := by decide +kernel
theorem dX10_addNote_42 : decode cX10_addNote 42 = .ok (.invokevirtual 49, 3) := by decide +kernel
theorem dX10_addNote_45 : decode cX10_addNote 45 = .ok (.ifCond .ne 7, 3) := by decide +kernel
theorem dX10_addNote_48 : decode cX10_addNote 48 = .ok (.iconst 1, 1) := by decide +kernel
theorem dX10_addNote_49 : decode cX10_addNote 49 = .ok (.goto 18, 3) := by decide +kernel
theorem dX10_addNote_52 : decode cX10_addNote 52 = .ok (.iload 7, 2) := by decide +kernel
theorem dX10_addNote_54 : decode cX10_addNote 54 = .ok (.ifCond .ne 7, 3) := by decide +kernel
theorem dX10_addNote_57 : decode cX10_addNote 57 = .ok (.iconst 2, 1) := by decide +kernel
theorem dX10_addNote_58 : decode cX10_addNote 58 = .ok (.goto 9, 3) := by decide +kernel
theorem dX10_addNote_61 : decode cX10_addNote 61 = .ok (.aload_n 0, 1) := by decide +kernel
theorem dX10_addNote_62 : decode cX10_addNote 62 = .ok (.iload_n 1, 1) := by decide +kernel
theorem dX10_addNote_63 : decode cX10_addNote 63 = .ok (.iload_n 2, 1) := by decide +kernel
theorem dX10_addNote_64 : decode cX10_addNote 64 = .ok (.invokevirtual 77, 3) := by decide +kernel
theorem dX10_addNote_67 : decode cX10_addNote 67 = .ok (.invokevirtual 38, 3) := by decide +kernel
theorem dX10_addNote_70 : decode cX10_addNote 70 = .ok (.ifCond .eq 5, 3) := by decide +kernel
theorem dX10_addNote_73 : decode cX10_addNote 73 = .ok (.iconst 0, 1) := by decide +kernel
theorem dX10_addNote_74 : decode cX10_addNote 74 = .ok (.ireturn, 1) := by decide +kernel
theorem dX10_addNote_75 : decode cX10_addNote 75 = .ok (.aload_n 0, 1) := by decide +kernel
theorem dX10_addNote_76 : decode cX10_addNote 76 = .ok (.iload_n 1, 1) := by decide +kernel
theorem dX10_addNote_77 : decode cX10_addNote 77 = .ok (.iload_n 2, 1) := by decide +kernel
theorem dX10_addNote_78 : decode cX10_addNote 78 = .ok (.iload_n 3, 1) := by decide +kernel
theorem dX10_addNote_79 : decode cX10_addNote 79 = .ok (.iload 4, 2) := by decide +kernel
theorem dX10_addNote_81 : decode cX10_addNote 81 = .ok (.iload 5, 2) := by decide +kernel
theorem dX10_addNote_83 : decode cX10_addNote 83 = .ok (.iload 6, 2) := by decide +kernel
theorem dX10_addNote_85 : decode cX10_addNote 85 = .ok (.ifCond .eq 7, 3) := by decide +kernel
theorem dX10_addNote_88 : decode cX10_addNote 88 = .ok (.iconst 1, 1) := by decide +kernel
theorem dX10_addNote_89 : decode cX10_addNote 89 = .ok (.goto 4, 3) := by decide +kernel
theorem dX10_addNote_92 : decode cX10_addNote 92 = .ok (.iconst 0, 1) := by decide +kernel
theorem dX10_addNote_93 : decode cX10_addNote 93 = .ok (.invokevirtual 80, 3) := by decide +kernel
theorem dX10_addNote_96 : decode cX10_addNote 96 = .ok (.ireturn, 1) := by decide +kernel
theorem dX10_addRest_0 : decode cX10_addRest 0 = .ok (.aload_n 0, 1) := by decide +kernel
theorem dX10_addRest_1 : decode cX10_addRest 1 = .ok (.aload_n 0, 1) := by decide +kernel
theorem dX10_addRest_2 : decode cX10_addRest 2 = .ok (.iload_n 1, 1) := by decide +kernel
theorem dX10_addRest_3 : decode cX10_addRest 3 = .ok (.iload_n 2, 1) := by decide +kernel
theorem dX10_addRest_4 : decode cX10_addRest 4 = .ok (.invokevirtual 49, 3) := by decide +kernel
theorem dX10_addRest_7 : decode cX10_addRest 7 = .ok (.ifCond .ne 7, 3) := by decide +kernel
theorem dX10_addRest_10 : decode cX10_addRest 10 = .ok (.iconst 1, 1) := by decide +kernel
theorem dX10_addRest_11 : decode cX10_addRest 11 = .ok (.goto 23, 3) := by decide +kernel
theorem dX10_addRest_14 : decode cX10_addRest 14 = .ok (.iload_n 3, 1) := by decide +kernel
theorem dX10_addRest_15 : decode cX10_addRest 15 = .ok (.iconst 0, 1) := by decide +kernel
theorem dX10_addRest_16 : decode cX10_addRest 16 = .ok (.bipush 9, 2) := by decide +kernel
theorem dX10_addRest_18 : decode cX10_addRest 18 = .ok (.invokestatic 42, 3) := by decide +kernel
theorem dX10_addRest_21 : decode cX10_addRest 21 = .ok (.ifCond .ne 7, 3) := by decide +kernel
theorem dX10_addRest_24 : decode cX10_addRest 24 = .ok (.iconst 2, 1) := by decide +kernel
theorem dX10_addRest_25 : decode cX10_addRest 25 = .ok (.goto 9, 3) := by decide +kernel
theorem dX10_addRest_28 : decode cX10_addRest 28 = .ok (.aload_n 0, 1) := by decide +kernel
theorem dX10_addRest_29 : decode cX10_addRest 29 = .ok (.iload_n 1, 1) := by decide +kernel
theorem dX10_addRest_30 : decode cX10_addRest 30 = .ok (.iload_n 2, 1) := by decide +kernel
theorem dX10_addRest_31 : decode cX10_addRest 31 = .ok (.invokevirtual 77, 3) := by decide +kernel
theorem dX10_addRest_34 : decode cX10_addRest 34 = .ok (.invokevirtual 38, 3) := by decide +kernel
theorem dX10_addRest_37 : decode cX10_addRest 37 = .ok (.ifCond .eq 5, 3) := by decide +kernel
theorem dX10_addRest_40 : decode cX10_addRest 40 = .ok (.iconst 0, 1) := by decide +kernel
theorem dX10_addRest_41 : decode cX10_addRest 41 = .ok (.ireturn, 1) := by decide +kernel
theorem dX10_addRest_42 : decode cX10_addRest 42 = .ok (.aload_n 0, 1) := by decide +kernel
theorem dX10_addRest_43 : decode cX10_addRest 43 = .ok (.iload_n 1, 1) := by decide +kernel
theorem dX10_addRest_44 : decode cX10_addRest 44 = .ok (.iload_n 2, 1) := by decide +kernel
theorem dX10_addRest_45 : decode cX10_addRest 45 = .ok (.iconst (-1), 1) := by decide +kernel
theorem dX10_addRest_46 : decode cX10_addRest 46 = .ok (.iconst 0, 1) := by decide +kernel
theorem dX10_addRest_47 : decode cX10_addRest 47 = .ok (.iload_n 3, 1) := by decide +kernel
theorem dX10_addRest_48 : decode cX10_addRest 48 = .ok (.iconst 0, 1) := by decide +kernel
theorem dX10_addRest_49 : decode cX10_addRest 49 = .ok (.invokevirtual 80, 3) := by decide +kernel
theorem dX10_addRest_52 : decode cX10_addRest 52 = .ok (.ireturn, 1) := by decide +kernel
theorem dX10_removeEvent_0 : decode cX10_removeEvent 0 = .ok (.aload_n 0, 1) := by decide +kernel
theorem dX10_removeEvent_1 : decode cX10_removeEvent 1 = .ok (.aload_n 0, 1) := by decide +kernel
theorem dX10_removeEvent_2 : decode cX10_removeEvent 2 = .ok (.iload_n 1, 1) := by decide +kernel
theorem dX10_removeEvent_3 : decode cX10_removeEvent 3 = .ok (.iload_n 2, 1) := by decide +kernel
theorem dX10_removeEvent_4 : decode cX10_removeEvent 4 = .ok (.iload_n 3, 1) := by decide +kernel
theorem dX10_removeEvent_5 : decode cX10_removeEvent 5 = .ok (.invokevirtual 84, 3) := by decide +kernel
theorem dX10_removeEvent_8 : decode cX10_removeEvent 8 = .ok (.ifCond .eq 7, 3) := by decide +kernel
theorem dX10_removeEvent_11 : decode cX10_removeEvent 11 = .ok (.iconst 0, 1) := by decide +kernel
theorem dX10_removeEvent_12 : decode cX10_removeEvent 12 = .ok (.goto 4, 3) := by decide +kernel
theorem dX10_removeEvent_15 : decode cX10_removeEvent 15 = .ok (.iconst 1, 1) := by decide +kernel
theorem dX10_removeEvent_16 : decode cX10_removeEvent 16 = .ok (.invokevirtual 38, 3) := by decide +kernel
theorem dX10_removeEvent_19 : decode cX10_removeEvent 19 = .ok (.ifCond .eq 5, 3) := by decide +kernel
theorem dX10_removeEvent_22 : decode cX10_removeEvent 22 = .ok (.iconst 0, 1) := by decide +kernel
theorem dX10_removeEvent_23 : decode cX10_removeEvent 23 = .ok (.ireturn, 1) := by decide +kernel
theorem dX10_removeEvent_24 : decode cX10_removeEvent 24 = .ok (.aload_n 0, 1) := by decide +kernel
theorem dX10_removeEvent_25 : decode cX10_removeEvent 25 = .ok (.invokevirtual 65, 3) := by decide +kernel
theorem dX10_removeEvent_28 : decode cX10_removeEvent 28 = .ok (.aload_n 0, 1) := by decide +kernel
theorem dX10_removeEvent_29 : decode cX10_removeEvent 29 = .ok (.getfield 7, 3) := by decide +kernel
theorem dX10_removeEvent_32 : decode cX10_removeEvent 32 = .ok (.iload_n 1, 1) := by decide +kernel
theorem dX10_removeEvent_33 : decode cX10_removeEvent 33 = .ok (.invokestatic 68, 3) := by decide +kernel
theorem dX10_removeEvent_36 : decode cX10_removeEvent 36 = .ok (.bipush 7, 2) := by decide +kernel
theorem dX10_removeEvent_38 : decode cX10_removeEvent 38 = .ok (.iadd, 1) := by decide +kernel
theorem dX10_removeEvent_39 : decode cX10_removeEvent 39 = .ok (.iload_n 2, 1) := by decide +kernel
theorem dX10_removeEvent_40 : decode cX10_removeEvent 40 = .ok (.iadd, 1) := by decide +kernel
theorem dX10_removeEvent_41 : decode cX10_removeEvent 41 = .ok (.dup2, 1) := by decide +kernel
theorem dX10_removeEvent_42 : decode cX10_removeEvent 42 = .ok (.iaload, 1) := by decide +kernel
theorem dX10_removeEvent_43 : decode cX10_removeEvent 43 = .ok (.iconst 1, 1) := by decide +kernel
theorem dX10_removeEvent_44 : decode cX10_removeEvent 44 = .ok (.isub, 1) := by decide +kernel
theorem dX10_removeEvent_45 : decode cX10_removeEvent 45 = .ok (.iastore, 1) := by decide +kernel
theorem dX10_removeEvent_46 : decode cX10_removeEvent 46 = .ok (.aload_n 0, 1) := by decide +kernel
theorem dX10_removeEvent_47 : decode cX10_removeEvent 47 = .ok (.iload_n 1, 1) := by decide +kernel
theorem dX10_removeEvent_48 : decode cX10_removeEvent 48 = .ok (.bipush 7, 2) := by decide +kernel
theorem dX10_removeEvent_50 : decode cX10_removeEvent 50 = .ok (.iload_n 2, 1) := by decide +kernel
theorem dX10_removeEvent_51 : decode cX10_removeEvent 51 = .ok (.iadd, 1) := by decide +kernel
theorem dX10_removeEvent_52 : decode cX10_removeEvent 52 = .ok (.invokevirtual 53, 3) := by decide +kernel
theorem dX10_removeEvent_55 : decode cX10_removeEvent 55 = .ok (.istore 4, 2) := by decide +kernel
theorem dX10_removeEvent_57 : decode cX10_removeEvent 57 = .ok (.iload_n 1, 1) := by decide +kernel
theorem dX10_removeEvent_58 : decode cX10_removeEvent 58 = .ok (.iload_n 2, 1) := by decide +kernel
theorem dX10_removeEvent_59 : decode cX10_removeEvent 59 = .ok (.iload_n 3, 1) := by decide +kernel
theorem dX10_removeEvent_60 : decode cX10_removeEvent 60 = .ok (.invokestatic 57, 3) := by decide +kernel
theorem dX10_removeEvent_63 : decode cX10_removeEvent 63 = .ok (.istore 5, 2) := by decide +kernel
theorem dX10_removeEvent_65 : decode cX10_removeEvent 65 = .ok (.iload 5, 2) := by decide +kernel
theorem dX10_removeEvent_67 : decode cX10_removeEvent 67 = .ok (.iload_n 1, 1) := by decide +kernel
theorem dX10_removeEvent_68 : decode cX10_removeEvent 68 = .ok (.iload_n 2, 1) := by decide +kernel
theorem dX10_removeEvent_69 : decode cX10_removeEvent 69 = .ok (.iload 4, 2) := by decide +kernel
theorem dX10_removeEvent_71 : decode cX10_removeEvent 71 = .ok (.invokestatic 57, 3) := by decide +kernel
theorem dX10_removeEvent_74 : decode cX10_removeEvent 74 = .ok (.if_icmp .ge 25, 3) := by decide +kernel
theorem dX10_removeEvent_77 : decode cX10_removeEvent 77 = .ok (.aload_n 0, 1) := by decide +kernel
theorem dX10_removeEvent_78 : decode cX10_removeEvent 78 = .ok (.getfield 7, 3) := by decide +kernel
theorem dX10_removeEvent_81 : decode cX10_removeEvent 81 = .ok (.iload 5, 2) := by decide +kernel
theorem dX10_removeEvent_83 : decode cX10_removeEvent 83 = .ok (.aload_n 0, 1) := by decide +kernel
theorem dX10_removeEvent_84 : decode cX10_removeEvent 84 = .ok (.getfield 7, 3) := by decide +kernel
theorem dX10_removeEvent_87 : decode cX10_removeEvent 87 = .ok (.iload 5, 2) := by decide +kernel
theorem dX10_removeEvent_89 : decode cX10_removeEvent 89 = .ok (.iconst 4, 1) := by decide +kernel
theorem dX10_removeEvent_90 : decode cX10_removeEvent 90 = .ok (.iadd, 1) := by decide +kernel
theorem dX10_removeEvent_91 : decode cX10_removeEvent 91 = .ok (.iaload, 1) := by decide +kernel
theorem dX10_removeEvent_92 : decode cX10_removeEvent 92 = .ok (.iastore, 1) := by decide +kernel
theorem dX10_removeEvent_93 : decode cX10_removeEvent 93 = .ok (.iinc 5 1, 3) := by decide +kernel
theorem dX10_removeEvent_96 : decode cX10_removeEvent 96 = .ok (.goto (-31), 3) := by decide +kernel
theorem dX10_removeEvent_99 : decode cX10_removeEvent 99 = .ok (.iload 4, 2) := by decide +kernel
theorem dX10_removeEvent_101 : decode cX10_removeEvent 101 = .ok (.ireturn, 1) := by decide +kernel
theorem dX10_bySign_0 : decode cX10_bySign 0 = .ok (.iload_n 0, 1) := by decide +kernel
theorem dX10_bySign_1 : decode cX10_bySign 1 = .ok (.iconst 1, 1) := by decide +kernel
theorem dX10_bySign_2 : decode cX10_bySign 2 = .ok (.if_icmp .ne 7, 3) := by decide +kernel
theorem dX10_bySign_5 : decode cX10_bySign 5 = .ok (.iconst 1, 1) := by decide +kernel
theorem dX10_bySign_6 : decode cX10_bySign 6 = .ok (.goto 13, 3) := by decide +kernel
theorem dX10_bySign_9 : decode cX10_bySign 9 = .ok (.iload_n 0, 1) := by decide +kernel
theorem dX10_bySign_10 : decode cX10_bySign 10 = .ok (.iconst 2, 1) := by decide +kernel
theorem dX10_bySign_11 : decode cX10_bySign 11 = .ok (.if_icmp .ne 7, 3) := by decide +kernel
theorem dX10_bySign_14 : decode cX10_bySign 14 = .ok (.iconst (-1), 1) := by decide +kernel
theorem dX10_bySign_15 : decode cX10_bySign 15 = .ok (.goto 4, 3) := by decide +kernel
theorem dX10_bySign_18 : decode cX10_bySign 18 = .ok (.iconst 0, 1) := by decide +kernel
theorem dX10_bySign_19 : decode cX10_bySign 19 = .ok (.ireturn, 1) := by decide +kernel
theorem dX10_byKey_0 : decode cX10_byKey 0 = .ok (.iconst 2, 1) := by decide +kernel
theorem dX10_byKey_1 : decode cX10_byKey 1 = .ok (.iload_n 1, 1) := by decide +kernel
theorem dX10_byKey_2 : decode cX10_byKey 2 = .ok (.iconst 4, 1) := by decide +kernel
theorem dX10_byKey_3 : decode cX10_byKey 3 = .ok (.iadd, 1) := by decide +kernel
theorem dX10_byKey_4 : decode cX10_byKey 4 = .ok (.imul, 1) := by decide +kernel
theorem dX10_byKey_5 : decode cX10_byKey 5 = .ok (.bipush 7, 2) := by decide +kernel
theorem dX10_byKey_7 : decode cX10_byKey 7 = .ok (.irem, 1) := by decide +kernel
theorem dX10_byKey_8 : decode cX10_byKey 8 = .ok (.istore_n 2, 1) := by decide +kernel
theorem dX10_byKey_9 : decode cX10_byKey 9 = .ok (.iload_n 0, 1) := by decide +kernel
theorem dX10_byKey_10 : decode cX10_byKey 10 = .ok (.iload_n 2, 1) := by decide +kernel
theorem dX10_byKey_11 : decode cX10_byKey 11 = .ok (.if_icmp .le 7, 3) := by decide +kernel
theorem dX10_byKey_14 : decode cX10_byKey 14 = .ok (.iconst 1, 1) := by decide +kernel
theorem dX10_byKey_15 : decode cX10_byKey 15 = .ok (.goto 17, 3) := by decide +kernel
theorem dX10_byKey_18 : decode cX10_byKey 18 = .ok (.iload_n 0, 1) := by decide +kernel
theorem dX10_byKey_19 : decode cX10_byKey 19 = .ok (.ineg, 1) := by decide +kernel
theorem dX10_byKey_20 : decode cX10_byKey 20 = .ok (.bipush 6, 2) := by decide +kernel
theorem dX10_byKey_22 : decode cX10_byKey 22 = .ok (.iload_n 2, 1) := by decide +kernel
theorem dX10_byKey_23 : decode cX10_byKey 23 = .ok (.isub, 1) := by decide +kernel
theorem dX10_byKey_24 : decode cX10_byKey 24 = .ok (.if_icmp .le 7, 3) := by decide +kernel
theorem dX10_byKey_27 : decode cX10_byKey 27 = .ok (.iconst (-1), 1) := by decide +kernel
theorem dX10_byKey_28 : decode cX10_byKey 28 = .ok (.goto 4, 3) := by decide +kernel
theorem dX10_byKey_31 : decode cX10_byKey 31 = .ok (.iconst 0, 1) := by decide +kernel
theorem dX10_byKey_32 : decode cX10_byKey 32 = .ok (.ireturn, 1) := by decide +kernel
theorem dX10_byMeasure_0 : decode cX10_byMeasure 0 = .ok (.aload_n 0, 1) := by decide +kernel
theorem dX10_byMeasure_1 : decode cX10_byMeasure 1 = .ok (.getfield 7, 3) := by decide +kernel
theorem dX10_byMeasure_4 : decode cX10_byMeasure 4 = .ok (.iload_n 1, 1) := by decide +kernel
theorem dX10_byMeasure_5 : decode cX10_byMeasure 5 = .ok (.iload_n 2, 1) := by decide +kernel
theorem dX10_byMeasure_6 : decode cX10_byMeasure 6 = .ok (.iload_n 3, 1) := by decide +kernel
theorem dX10_byMeasure_7 : decode cX10_byMeasure 7 = .ok (.invokestatic 57, 3) := by decide +kernel
theorem dX10_byMeasure_10 : decode cX10_byMeasure 10 = .ok (.iconst 0, 1) := by decide +kernel
theorem dX10_byMeasure_11 : decode cX10_byMeasure 11 = .ok (.iadd, 1) := by decide +kernel
theorem dX10_byMeasure_12 : decode cX10_byMeasure 12 = .ok (.iaload, 1) := by decide +kernel
theorem dX10_byMeasure_13 : decode cX10_byMeasure 13 = .ok (.istore 4, 2) := by decide +kernel
theorem dX10_byMeasure_15 : decode cX10_byMeasure 15 = .ok (.iload_n 3, 1) := by decide +kernel
theorem dX10_byMeasure_16 : decode cX10_byMeasure 16 = .ok (.iconst 1, 1) := by decide +kernel
theorem dX10_byMeasure_17 : decode cX10_byMeasure 17 = .ok (.isub, 1) := by decide +kernel
theorem dX10_byMeasure_18 : decode cX10_byMeasure 18 = .ok (.istore 5, 2) := by decide +kernel
theorem dX10_byMeasure_20 : decode cX10_byMeasure 20 = .ok (.iload 5, 2) := by decide +kernel
theorem dX10_byMeasure_22 : decode cX10_byMeasure 22 = .ok (.ifCond .lt 57, 3) := by decide +kernel
theorem dX10_byMeasure_25 : decode cX10_byMeasure 25 = .ok (.iload_n 1, 1) := by decide +kernel
theorem dX10_byMeasure_26 : decode cX10_byMeasure 26 = .ok (.iload_n 2, 1) := by decide +kernel
theorem dX10_byMeasure_27 : decode cX10_byMeasure 27 = .ok (.iload 5, 2) := by decide +kernel
theorem dX10_byMeasure_29 : decode cX10_byMeasure 29 = .ok (.invokestatic 57, 3) := by decide +kernel
theorem dX10_byMeasure_32 : decode cX10_byMeasure 32 = .ok (.istore 6, 2) := by decide +kernel
theorem dX10_byMeasure_34 : decode cX10_byMeasure 34 = .ok (.aload_n 0, 1) := by decide +kernel
theorem dX10_byMeasure_35 : decode cX10_byMeasure 35 = .ok (.getfield 7, 3) := by decide +kernel
theorem dX10_byMeasure_38 : decode cX10_byMeasure 38 = .ok (.iload 6, 2) := by decide +kernel
theorem dX10_byMeasure_40 : decode cX10_byMeasure 40 = .ok (.iconst 0, 1) := by decide +kernel
theorem dX10_byMeasure_41 : decode cX10_byMeasure 41 = .ok (.iadd, 1) := by decide +kernel
theorem dX10_byMeasure_42 : decode cX10_byMeasure 42 = .ok (.iaload, 1) := by decide +kernel
theorem dX10_byMeasure_43 : decode cX10_byMeasure 43 = .ok (.iload 4, 2) := by decide +kernel
theorem dX10_byMeasure_45 : decode cX10_byMeasure 45 = .ok (.if_icmp .ne 28, 3) := by decide +kernel
theorem dX10_byMeasure_48 : decode cX10_byMeasure 48 = .ok (.aload_n 0, 1) := by decide +kernel
theorem dX10_byMeasure_49 : decode cX10_byMeasure 49 = .ok (.getfield 7, 3) := by decide +kernel
theorem dX10_byMeasure_52 : decode cX10_byMeasure 52 = .ok (.iload 6, 2) := by decide +kernel
theorem dX10_byMeasure_54 : decode cX10_byMeasure 54 = .ok (.iconst 1, 1) := by decide +kernel
theorem dX10_byMeasure_55 : decode cX10_byMeasure 55 = .ok (.iadd, 1) := by decide +kernel
theorem dX10_byMeasure_56 : decode cX10_byMeasure 56 = .ok (.iaload, 1) := by decide +kernel
theorem dX10_byMeasure_57 : decode cX10_byMeasure 57 = .ok (.ifCond .le 16, 3) := by decide +kernel
theorem dX10_byMeasure_60 : decode cX10_byMeasure 60 = .ok (.aload_n 0, 1) := by decide +kernel
theorem dX10_byMeasure_61 : decode cX10_byMeasure 61 = .ok (.getfield 7, 3) := by decide +kernel
theorem dX10_byMeasure_64 : decode cX10_byMeasure 64 = .ok (.iload 6, 2) := by decide +kernel
theorem dX10_byMeasure_66 : decode cX10_byMeasure 66 = .ok (.iconst 1, 1) := by decide +kernel
theorem dX10_byMeasure_67 : decode cX10_byMeasure 67 = .ok (.iadd, 1) := by decide +kernel
theorem dX10_byMeasure_68 : decode cX10_byMeasure 68 = .ok (.iaload, 1) := by decide +kernel
theorem dX10_byMeasure_69 : decode cX10_byMeasure 69 = .ok (.invokestatic 87, 3) := by decide +kernel
theorem dX10_byMeasure_72 : decode cX10_byMeasure 72 = .ok (.ireturn, 1) := by decide +kernel
theorem dX10_byMeasure_73 : decode cX10_byMeasure 73 = .ok (.iinc 5 (-1), 3) := by decide +kernel
theorem dX10_byMeasure_76 : decode cX10_byMeasure 76 = .ok (.goto (-56), 3) := by decide +kernel
theorem dX10_byMeasure_79 : decode cX10_byMeasure 79 = .ok (.aload_n 0, 1) := by decide +kernel
theorem dX10_byMeasure_80 : decode cX10_byMeasure 80 = .ok (.iload_n 1, 1) := by decide +kernel
theorem dX10_byMeasure_81 : decode cX10_byMeasure 81 = .ok (.iconst 0, 1) := by decide +kernel
theorem dX10_byMeasure_82 : decode cX10_byMeasure 82 = .ok (.invokevirtual 53, 3) := by decide +kernel
theorem dX10_byMeasure_85 : decode cX10_byMeasure 85 = .ok (.iload 4, 2) := by decide +kernel
theorem dX10_byMeasure_87 : decode cX10_byMeasure 87 = .ok (.bipush 7, 2) := by decide +kernel
theorem dX10_byMeasure_89 : decode cX10_byMeasure 89 = .ok (.irem, 1) := by decide +kernel
theorem dX10_byMeasure_90 : decode cX10_byMeasure 90 = .ok (.invokestatic 90, 3) := by decide +kernel
theorem dX10_byMeasure_93 : decode cX10_byMeasure 93 = .ok (.ireturn, 1) := by decide +kernel
theorem dX10_shift_0 : decode cX10_shift 0 = .ok (.iload_n 1, 1) := by decide +kernel
theorem dX10_shift_1 : decode cX10_shift 1 = .ok (.istore 4, 2) := by decide +kernel
theorem dX10_shift_3 : decode cX10_shift 3 = .ok (.iload_n 3, 1) := by decide +kernel
theorem dX10_shift_4 : decode cX10_shift 4 = .ok (.istore 5, 2) := by decide +kernel
theorem dX10_shift_6 : decode cX10_shift 6 = .ok (.iload 4, 2) := by decide +kernel
theorem dX10_shift_8 : decode cX10_shift 8 = .ok (.iload_n 2, 1) := by decide +kernel
theorem dX10_shift_9 : decode cX10_shift 9 = .ok (.iload 5, 2) := by decide +kernel
theorem dX10_shift_11 : decode cX10_shift 11 = .ok (.invokestatic 57, 3) := by decide +kernel
theorem dX10_shift_14 : decode cX10_shift 14 = .ok (.istore 6, 2) := by decide +kernel
theorem dX10_shift_16 : decode cX10_shift 16 = .ok (.aload_n 0, 1) := by decide +kernel
theorem dX10_shift_17 : decode cX10_shift 17 = .ok (.getfield 7, 3) := by decide +kernel
theorem dX10_shift_20 : decode cX10_shift 20 = .ok (.iload 6, 2) := by decide +kernel
theorem dX10_shift_22 : decode cX10_shift 22 = .ok (.iconst 1, 1) := by decide +kernel
theorem dX10_shift_23 : decode cX10_shift 23 = .ok (.iadd, 1) := by decide +kernel
theorem dX10_shift_24 : decode cX10_shift 24 = .ok (.iaload, 1) := by decide +kernel
theorem dX10_shift_25 : decode cX10_shift 25 = .ok (.ifCond .le 16, 3) := by decide +kernel
theorem dX10_shift_28 : decode cX10_shift 28 = .ok (.aload_n 0, 1) := by decide +kernel
theorem dX10_shift_29 : decode cX10_shift 29 = .ok (.getfield 7, 3) := by decide +kernel
theorem dX10_shift_32 : decode cX10_shift 32 = .ok (.iload 6, 2) := by decide +kernel
theorem dX10_shift_34 : decode cX10_shift 34 = .ok (.iconst 1, 1) := by decide +kernel
theorem dX10_shift_35 : decode cX10_shift 35 = .ok (.iadd, 1) := by decide +kernel
theorem dX10_shift_36 : decode cX10_shift 36 = .ok (.iaload, 1) := by decide +kernel
theorem dX10_shift_37 : decode cX10_shift 37 = .ok (.invokestatic 87, 3) := by decide +kernel
theorem dX10_shift_40 : decode cX10_shift 40 = .ok (.ireturn, 1) := by decide +kernel
theorem dX10_shift_41 : decode cX10_shift 41 = .ok (.iload 5, 2) := by decide +kernel
theorem dX10_shift_43 : decode cX10_shift 43 = .ok (.ifCond .le 8, 3) := by decide +kernel
theorem dX10_shift_46 : decode cX10_shift 46 = .ok (.iload 4, 2) := by decide +kernel
theorem dX10_shift_48 : decode cX10_shift 48 = .ok (.goto 7, 3) := by decide +kernel
theorem dX10_shift_51 : decode cX10_shift 51 = .ok (.iload 4, 2) := by decide +kernel
theorem dX10_shift_53 : decode cX10_shift 53 = .ok (.iconst 1, 1) := by decide +kernel
theorem dX10_shift_54 : decode cX10_shift 54 = .ok (.isub, 1) := by decide +kernel
theorem dX10_shift_55 : decode cX10_shift 55 = .ok (.istore 7, 2) := by decide +kernel
theorem dX10_shift_57 : decode cX10_shift 57 = .ok (.iload 5, 2) := by decide +kernel
theorem dX10_shift_59 : decode cX10_shift 59 = .ok (.ifCond .le 10, 3) := by decide +kernel
theorem dX10_shift_62 : decode cX10_shift 62 = .ok (.iload 5, 2) := by decide +kernel
theorem dX10_shift_64 : decode cX10_shift 64 = .ok (.iconst 1, 1) := by decide +kernel
theorem dX10_shift_65 : decode cX10_shift 65 = .ok (.isub, 1) := by decide +kernel
theorem dX10_shift_66 : decode cX10_shift 66 = .ok (.goto 24, 3) := by decide +kernel
theorem dX10_shift_69 : decode cX10_shift 69 = .ok (.iload 7, 2) := by decide +kernel
theorem dX10_shift_71 : decode cX10_shift 71 = .ok (.ifCond .ge 7, 3) := by decide +kernel
theorem dX10_shift_74 : decode cX10_shift 74 = .ok (.iconst (-1), 1) := by decide +kernel
theorem dX10_shift_75 : decode cX10_shift 75 = .ok (.goto 15, 3) := by decide +kernel
theorem dX10_shift_78 : decode cX10_shift 78 = .ok (.aload_n 0, 1) := by decide +kernel
theorem dX10_shift_79 : decode cX10_shift 79 = .ok (.iload 7, 2) := by decide +kernel
theorem dX10_shift_81 : decode cX10_shift 81 = .ok (.bipush 7, 2) := by decide +kernel
theorem dX10_shift_83 : decode cX10_shift 83 = .ok (.iload_n 2, 1) := by decide +kernel
theorem dX10_shift_84 : decode cX10_shift 84 = .ok (.iadd, 1) := by decide +kernel
theorem dX10_shift_85 : decode cX10_shift 85 = .ok (.invokevirtual 53, 3) := by decide +kernel
theorem dX10_shift_88 : decode cX10_shift 88 = .ok (.iconst 1, 1) := by decide +kernel
theorem dX10_shift_89 : decode cX10_shift 89 = .ok (.isub, 1) := by decide +kernel
theorem dX10_shift_90 : decode cX10_shift 90 = .ok (.istore 8, 2) := by decide +kernel
theorem dX10_shift_92 : decode cX10_shift 92 = .ok (.iload 8, 2) := by decide +kernel
theorem dX10_shift_94 : decode cX10_shift 94 = .ok (.ifCond .ge 7, 3) := by decide +kernel
theorem dX10_shift_97 : decode cX10_shift 97 = .ok (.iconst (-1), 1) := by decide +kernel
theorem dX10_shift_98 : decode cX10_shift 98 = .ok (.goto 11, 3) := by decide +kernel
theorem dX10_shift_101 : decode cX10_shift 101 = .ok (.iload 7, 2) := by decide +kernel
theorem dX10_shift_103 : decode cX10_shift 103 = .ok (.iload_n 2, 1) := by decide +kernel
theorem dX10_shift_104 : decode cX10_shift 104 = .ok (.iload 8, 2) := by decide +kernel
theorem dX10_shift_106 : decode cX10_shift 106 = .ok (.invokestatic 57, 3) := by decide +kernel
theorem dX10_shift_109 : decode cX10_shift 109 = .ok (.istore 9, 2) := by decide +kernel
theorem dX10_shift_111 : decode cX10_shift 111 = .ok (.iload 9, 2) := by decide +kernel
theorem dX10_shift_113 : decode cX10_shift 113 = .ok (.ifCond .lt 36, 3) := by decide +kernel
theorem dX10_shift_116 : decode cX10_shift 116 = .ok (.aload_n 0, 1) := by decide +kernel
theorem dX10_shift_117 : decode cX10_shift 117 = .ok (.getfield 7, 3) := by decide +kernel
theorem dX10_shift_120 : decode cX10_shift 120 = .ok (.iload 9, 2) := by decide +kernel
theorem dX10_shift_122 : decode cX10_shift 122 = .ok (.iconst 0, 1) := by decide +kernel
theorem dX10_shift_123 : decode cX10_shift 123 = .ok (.iadd, 1) := by decide +kernel
theorem dX10_shift_124 : decode cX10_shift 124 = .ok (.iaload, 1) := by decide +kernel
theorem dX10_shift_125 : decode cX10_shift 125 = .ok (.aload_n 0, 1) := by decide +kernel
theorem dX10_shift_126 : decode cX10_shift 126 = .ok (.getfield 7, 3) := by decide +kernel
theorem dX10_shift_129 : decode cX10_shift 129 = .ok (.iload 6, 2) := by decide +kernel
theorem dX10_shift_131 : decode cX10_shift 131 = .ok (.iconst 0, 1) := by decide +kernel
theorem dX10_shift_132 : decode cX10_shift 132 = .ok (.iadd, 1) := by decide +kernel
theorem dX10_shift_133 : decode cX10_shift 133 = .ok (.iaload, 1) := by decide +kernel
theorem dX10_shift_134 : decode cX10_shift 134 = .ok (.if_icmp .ne 15, 3) := by decide +kernel
theorem dX10_shift_137 : decode cX10_shift 137 = .ok (.aload_n 0, 1) := by decide +kernel
theorem dX10_shift_138 : decode cX10_shift 138 = .ok (.getfield 7, 3) := by decide +kernel
theorem dX10_shift_141 : decode cX10_shift 141 = .ok (.iload 9, 2) := by decide +kernel
theorem dX10_shift_143 : decode cX10_shift 143 = .ok (.iconst 3, 1) := by decide +kernel
theorem dX10_shift_144 : decode cX10_shift 144 = .ok (.iadd, 1) := by decide +kernel
theorem dX10_shift_145 : decode cX10_shift 145 = .ok (.iaload, 1) := by decide +kernel
theorem dX10_shift_146 : decode cX10_shift 146 = .ok (.ifCond .ne 13, 3) := by decide +kernel
theorem dX10_shift_149 : decode cX10_shift 149 = .ok (.aload_n 0, 1) := by decide +kernel
theorem dX10_shift_150 : decode cX10_shift 150 = .ok (.iload 4, 2) := by decide +kernel
theorem dX10_shift_152 : decode cX10_shift 152 = .ok (.iload_n 2, 1) := by decide +kernel
theorem dX10_shift_153 : decode cX10_shift 153 = .ok (.iload 5, 2) := by decide +kernel
theorem dX10_shift_155 : decode cX10_shift 155 = .ok (.invokevirtual 93, 3) := by decide +kernel
theorem dX10_shift_158 : decode cX10_shift 158 = .ok (.ireturn, 1) := by decide +kernel
theorem dX10_shift_159 : decode cX10_shift 159 = .ok (.iload 7, 2) := by decide +kernel
theorem dX10_shift_161 : decode cX10_shift 161 = .ok (.istore 4, 2) := by decide +kernel
theorem dX10_shift_163 : decode cX10_shift 163 = .ok (.iload 8, 2) := by decide +kernel
theorem dX10_shift_165 : decode cX10_shift 165 = .ok (.istore 5, 2) := by decide +kernel
theorem dX10_shift_167 : decode cX10_shift 167 = .ok (.goto (-161), 3) := by decide +kernel
theorem dX10_sound_0 : decode cX10_sound 0 = .ok (.aload_n 0, 1) := by decide +kernel
theorem dX10_sound_1 : decode cX10_sound 1 = .ok (.getfield 7, 3) := by decide +kernel
theorem dX10_sound_4 : decode cX10_sound 4 = .ok (.iload_n 1, 1) := by decide +kernel
theorem dX10_sound_5 : decode cX10_sound 5 = .ok (.iload_n 2, 1) := by decide +kernel
theorem dX10_sound_6 : decode cX10_sound 6 = .ok (.iload_n 3, 1) := by decide +kernel
theorem dX10_sound_7 : decode cX10_sound 7 = .ok (.invokestatic 57, 3) := by decide +kernel
theorem dX10_sound_10 : decode cX10_sound 10 = .ok (.iconst 0, 1) := by decide +kernel
theorem dX10_sound_11 : decode cX10_sound 11 = .ok (.iadd, 1) := by decide +kernel
theorem dX10_sound_12 : decode cX10_sound 12 = .ok (.iaload, 1) := by decide +kernel
theorem dX10_sound_13 : decode cX10_sound 13 = .ok (.istore 4, 2) := by decide +kernel
theorem dX10_sound_15 : decode cX10_sound 15 = .ok (.iload 4, 2) := by decide +kernel
theorem dX10_sound_17 : decode cX10_sound 17 = .ok (.bipush 7, 2) := by decide +kernel
theorem dX10_sound_19 : decode cX10_sound 19 = .ok (.irem, 1) := by decide +kernel
theorem dX10_sound_20 : decode cX10_sound 20 = .ok (.istore 5, 2) := by decide +kernel
theorem dX10_sound_22 : decode cX10_sound 22 = .ok (.bipush 12, 2) := by decide +kernel
theorem dX10_sound_24 : decode cX10_sound 24 = .ok (.iload 4, 2) := by decide +kernel
theorem dX10_sound_26 : decode cX10_sound 26 = .ok (.bipush 7, 2) := by decide +kernel
theorem dX10_sound_28 : decode cX10_sound 28 = .ok (.idiv, 1) := by decide +kernel
theorem dX10_sound_29 : decode cX10_sound 29 = .ok (.imul, 1) := by decide +kernel
theorem dX10_sound_30 : decode cX10_sound 30 = .ok (.iload 5, 2) := by decide +kernel
theorem dX10_sound_32 : decode cX10_sound 32 = .ok (.iconst 3, 1) := by decide +kernel
theorem dX10_sound_33 : decode cX10_sound 33 = .ok (.if_icmp .ge 10, 3) := by decide +kernel
theorem dX10_sound_36 : decode cX10_sound 36 = .ok (.iconst 2, 1) := by decide +kernel
theorem dX10_sound_37 : decode cX10_sound 37 = .ok (.iload 5, 2) := by decide +kernel
theorem dX10_sound_39 : decode cX10_sound 39 = .ok (.imul, 1) := by decide +kernel
theorem dX10_sound_40 : decode cX10_sound 40 = .ok (.goto 9, 3) := by decide +kernel
theorem dX10_sound_43 : decode cX10_sound 43 = .ok (.iconst 2, 1) := by decide +kernel
theorem dX10_sound_44 : decode cX10_sound 44 = .ok (.iload 5, 2) := by decide +kernel
theorem dX10_sound_46 : decode cX10_sound 46 = .ok (.imul, 1) := by decide +kernel
theorem dX10_sound_47 : decode cX10_sound 47 = .ok (.iconst 1, 1) := by decide +kernel
theorem dX10_sound_48 : decode cX10_sound 48 = .ok (.isub, 1) := by decide +kernel
theorem dX10_sound_49 : decode cX10_sound 49 = .ok (.iadd, 1) := by decide +kernel
theorem dX10_sound_50 : decode cX10_sound 50 = .ok (.aload_n 0, 1) := by decide +kernel
theorem dX10_sound_51 : decode cX10_sound 51 = .ok (.iload_n 1, 1) := by decide +kernel
theorem dX10_sound_52 : decode cX10_sound 52 = .ok (.iload_n 2, 1) := by decide +kernel
theorem dX10_sound_53 : decode cX10_sound 53 = .ok (.iload_n 3, 1) := by decide +kernel
theorem dX10_sound_54 : decode cX10_sound 54 = .ok (.invokevirtual 96, 3) := by decide +kernel
theorem dX10_sound_57 : decode cX10_sound 57 = .ok (.iadd, 1) := by decide +kernel
theorem dX10_sound_58 : decode cX10_sound 58 = .ok (.ireturn, 1) := by decide +kernel
theorem dX10_isNote_0 : decode cX10_isNote 0 = .ok (.aload_n 0, 1) := by decide +kernel
theorem dX10_isNote_1 : decode cX10_isNote 1 = .ok (.getfield 7, 3) := by decide +kernel
theorem dX10_isNote_4 : decode cX10_isNote 4 = .ok (.iload_n 1, 1) := by decide +kernel
theorem dX10_isNote_5 : decode cX10_isNote 5 = .ok (.iload_n 2, 1) := by decide +kernel
theorem dX10_isNote_6 : decode cX10_isNote 6 = .ok (.iload_n 3, 1) := by decide +kernel
theorem dX10_isNote_7 : decode cX10_isNote 7 = .ok (.invokestatic 57, 3) := by decide +kernel
theorem dX10_isNote_10 : decode cX10_isNote 10 = .ok (.iconst 0, 1) := by decide +kernel
theorem dX10_isNote_11 : decode cX10_isNote 11 = .ok (.iadd, 1) := by decide +kernel
theorem dX10_isNote_12 : decode cX10_isNote 12 = .ok (.iaload, 1) := by decide +kernel
theorem dX10_isNote_13 : decode cX10_isNote 13 = .ok (.iconst (-1), 1) := by decide +kernel
theorem dX10_isNote_14 : decode cX10_isNote 14 = .ok (.if_icmp .eq 7, 3) := by decide +kernel
theorem dX10_isNote_17 : decode cX10_isNote 17 = .ok (.iconst 1, 1) := by decide +kernel
theorem dX10_isNote_18 : decode cX10_isNote 18 = .ok (.goto 4, 3) := by decide +kernel
theorem dX10_isNote_21 : decode cX10_isNote 21 = .ok (.iconst 0, 1) := by decide +kernel
theorem dX10_isNote_22 : decode cX10_isNote 22 = .ok (.ireturn, 1) := by decide +kernel
theorem dX10_holds_0 : decode cX10_holds 0 = .ok (.iload_n 3, 1) := by decide +kernel
theorem dX10_holds_1 : decode cX10_holds 1 = .ok (.iconst 1, 1) := by decide +kernel
theorem dX10_holds_2 : decode cX10_holds 2 = .ok (.iadd, 1) := by decide +kernel
theorem dX10_holds_3 : decode cX10_holds 3 = .ok (.aload_n 0, 1) := by decide +kernel
theorem dX10_holds_4 : decode cX10_holds 4 = .ok (.iload_n 1, 1) := by decide +kernel
theorem dX10_holds_5 : decode cX10_holds 5 = .ok (.bipush 7, 2) := by decide +kernel
theorem dX10_holds_7 : decode cX10_holds 7 = .ok (.iload_n 2, 1) := by decide +kernel
theorem dX10_holds_8 : decode cX10_holds 8 = .ok (.iadd, 1) := by decide +kernel
theorem dX10_holds_9 : decode cX10_holds 9 = .ok (.invokevirtual 53, 3) := by decide +kernel
theorem dX10_holds_12 : decode cX10_holds 12 = .ok (.if_icmp .ne 7, 3) := by decide +kernel
theorem dX10_holds_15 : decode cX10_holds 15 = .ok (.iconst 1, 1) := by decide +kernel
theorem dX10_holds_16 : decode cX10_holds 16 = .ok (.goto 4, 3) := by decide +kernel
theorem dX10_holds_19 : decode cX10_holds 19 = .ok (.iconst 0, 1) := by decide +kernel
theorem dX10_holds_20 : decode cX10_holds 20 = .ok (.istore 4, 2) := by decide +kernel
theorem dX10_holds_22 : decode cX10_holds 22 = .ok (.aload_n 0, 1) := by decide +kernel
theorem dX10_holds_23 : decode cX10_holds 23 = .ok (.iload 4, 2) := by decide +kernel
theorem dX10_holds_25 : decode cX10_holds 25 = .ok (.ifCond .eq 9, 3) := by decide +kernel
theorem dX10_holds_28 : decode cX10_holds 28 = .ok (.iload_n 1, 1) := by decide +kernel
theorem dX10_holds_29 : decode cX10_holds 29 = .ok (.iconst 1, 1) := by decide +kernel
theorem dX10_holds_30 : decode cX10_holds 30 = .ok (.iadd, 1) := by decide +kernel
theorem dX10_holds_31 : decode cX10_holds 31 = .ok (.goto 4, 3) := by decide +kernel
theorem dX10_holds_34 : decode cX10_holds 34 = .ok (.iload_n 1, 1) := by decide +kernel
theorem dX10_holds_35 : decode cX10_holds 35 = .ok (.putfield 99, 3) := by decide +kernel
theorem dX10_holds_38 : decode cX10_holds 38 = .ok (.aload_n 0, 1) := by decide +kernel
theorem dX10_holds_39 : decode cX10_holds 39 = .ok (.iload 4, 2) := by decide +kernel
theorem dX10_holds_41 : decode cX10_holds 41 = .ok (.ifCond .eq 7, 3) := by decide +kernel
theorem dX10_holds_44 : decode cX10_holds 44 = .ok (.iconst 0, 1) := by decide +kernel
theorem dX10_holds_45 : decode cX10_holds 45 = .ok (.goto 6, 3) := by decide +kernel
theorem dX10_holds_48 : decode cX10_holds 48 = .ok (.iload_n 3, 1) := by decide +kernel
theorem dX10_holds_49 : decode cX10_holds 49 = .ok (.iconst 1, 1) := by decide +kernel
theorem dX10_holds_50 : decode cX10_holds 50 = .ok (.iadd, 1) := by decide +kernel
theorem dX10_holds_51 : decode cX10_holds 51 = .ok (.putfield 102, 3) := by decide +kernel
theorem dX10_holds_54 : decode cX10_holds 54 = .ok (.aload_n 0, 1) := by decide +kernel
theorem dX10_holds_55 : decode cX10_holds 55 = .ok (.getfield 99, 3) := by decide +kernel
theorem dX10_holds_58 : decode cX10_holds 58 = .ok (.aload_n 0, 1) := by decide +kernel
theorem dX10_holds_59 : decode cX10_holds 59 = .ok (.getfield 7, 3) := by decide +kernel
theorem dX10_holds_62 : decode cX10_holds 62 = .ok (.iconst 0, 1) := by decide +kernel
theorem dX10_holds_63 : decode cX10_holds 63 = .ok (.iaload, 1) := by decide +kernel
theorem dX10_holds_64 : decode cX10_holds 64 = .ok (.if_icmp .eq 22, 3) := by decide +kernel
theorem dX10_holds_67 : decode cX10_holds 67 = .ok (.aload_n 0, 1) := by decide +kernel
theorem dX10_holds_68 : decode cX10_holds 68 = .ok (.getfield 102, 3) := by decide +kernel
theorem dX10_holds_71 : decode cX10_holds 71 = .ok (.aload_n 0, 1) := by decide +kernel
theorem dX10_holds_72 : decode cX10_holds 72 = .ok (.aload_n 0, 1) := by decide +kernel
theorem dX10_holds_73 : decode cX10_holds 73 = .ok (.getfield 99, 3) := by decide +kernel
theorem dX10_holds_76 : decode cX10_holds 76 = .ok (.bipush 7, 2) := by decide +kernel
theorem dX10_holds_78 : decode cX10_holds 78 = .ok (.iload_n 2, 1) := by decide +kernel
theorem dX10_holds_79 : decode cX10_holds 79 = .ok (.iadd, 1) := by decide +kernel
theorem dX10_holds_80 : decode cX10_holds 80 = .ok (.invokevirtual 53, 3) := by decide +kernel
theorem dX10_holds_83 : decode cX10_holds 83 = .ok (.if_icmp .ne 5, 3) := by decide +kernel
theorem dX10_holds_86 : decode cX10_holds 86 = .ok (.iconst 0, 1) := by decide +kernel
theorem dX10_holds_87 : decode cX10_holds 87 = .ok (.ireturn, 1) := by decide +kernel
theorem dX10_holds_88 : decode cX10_holds 88 = .ok (.aload_n 0, 1) := by decide +kernel
theorem dX10_holds_89 : decode cX10_holds 89 = .ok (.getfield 7, 3) := by decide +kernel
theorem dX10_holds_92 : decode cX10_holds 92 = .ok (.aload_n 0, 1) := by decide +kernel
theorem dX10_holds_93 : decode cX10_holds 93 = .ok (.getfield 99, 3) := by decide +kernel
theorem dX10_holds_96 : decode cX10_holds 96 = .ok (.iload_n 2, 1) := by decide +kernel
theorem dX10_holds_97 : decode cX10_holds 97 = .ok (.aload_n 0, 1) := by decide +kernel
theorem dX10_holds_98 : decode cX10_holds 98 = .ok (.getfield 102, 3) := by decide +kernel
theorem dX10_holds_101 : decode cX10_holds 101 = .ok (.invokestatic 57, 3) := by decide +kernel
theorem dX10_holds_104 : decode cX10_holds 104 = .ok (.iconst 0, 1) := by decide +kernel
theorem dX10_holds_105 : decode cX10_holds 105 = .ok (.iadd, 1) := by decide +kernel
theorem dX10_holds_106 : decode cX10_holds 106 = .ok (.iaload, 1) := by decide +kernel
theorem dX10_holds_107 : decode cX10_holds 107 = .ok (.aload_n 0, 1) := by decide +kernel
theorem dX10_holds_108 : decode cX10_holds 108 = .ok (.getfield 7, 3) := by decide +kernel
theorem dX10_holds_111 : decode cX10_holds 111 = .ok (.iload_n 1, 1) := by decide +kernel
theorem dX10_holds_112 : decode cX10_holds 112 = .ok (.iload_n 2, 1) := by decide +kernel
theorem dX10_holds_113 : decode cX10_holds 113 = .ok (.iload_n 3, 1) := by decide +kernel
theorem dX10_holds_114 : decode cX10_holds 114 = .ok (.invokestatic 57, 3) := by decide +kernel
theorem dX10_holds_117 : decode cX10_holds 117 = .ok (.iconst 0, 1) := by decide +kernel
theorem dX10_holds_118 : decode cX10_holds 118 = .ok (.iadd, 1) := by decide +kernel
theorem dX10_holds_119 : decode cX10_holds 119 = .ok (.iaload, 1) := by decide +kernel
theorem dX10_holds_120 : decode cX10_holds 120 = .ok (.if_icmp .ne 7, 3) := by decide +kernel
theorem dX10_holds_123 : decode cX10_holds 123 = .ok (.iconst 1, 1) := by decide +kernel
theorem dX10_holds_124 : decode cX10_holds 124 = .ok (.goto 4, 3) := by decide +kernel
theorem dX10_holds_127 : decode cX10_holds 127 = .ok (.iconst 0, 1) := by decide +kernel
theorem dX10_holds_128 : decode cX10_holds 128 = .ok (.ireturn, 1) := by decide +kernel
theorem dX10_held_0 : decode cX10_held 0 = .ok (.iconst 0, 1) := by decide +kernel
theorem dX10_held_1 : decode cX10_held 1 = .ok (.istore 4, 2) := by decide +kernel
theorem dX10_held_3 : decode cX10_held 3 = .ok (.iload_n 1, 1) := by decide +kernel
theorem dX10_held_4 : decode cX10_held 4 = .ok (.istore 5, 2) := by decide +kernel
theorem dX10_held_6 : decode cX10_held 6 = .ok (.iload_n 3, 1) := by decide +kernel
theorem dX10_held_7 : decode cX10_held 7 = .ok (.istore 6, 2) := by decide +kernel
theorem dX10_held_9 : decode cX10_held 9 = .ok (.iconst 1, 1) := by decide +kernel
theorem dX10_held_10 : decode cX10_held 10 = .ok (.istore 7, 2) := by decide +kernel
theorem dX10_held_12 : decode cX10_held 12 = .ok (.iload 7, 2) := by decide +kernel
theorem dX10_held_14 : decode cX10_held 14 = .ok (.ifCond .eq 97, 3) := by decide +kernel
theorem dX10_held_17 : decode cX10_held 17 = .ok (.iload 5, 2) := by decide +kernel
theorem dX10_held_19 : decode cX10_held 19 = .ok (.iload_n 2, 1) := by decide +kernel
theorem dX10_held_20 : decode cX10_held 20 = .ok (.iload 6, 2) := by decide +kernel
theorem dX10_held_22 : decode cX10_held 22 = .ok (.invokestatic 57, 3) := by decide +kernel
theorem dX10_held_25 : decode cX10_held 25 = .ok (.istore 8, 2) := by decide +kernel
theorem dX10_held_27 : decode cX10_held 27 = .ok (.iload 4, 2) := by decide +kernel
theorem dX10_held_29 : decode cX10_held 29 = .ok (.aload_n 0, 1) := by decide +kernel
theorem dX10_held_30 : decode cX10_held 30 = .ok (.getfield 7, 3) := by decide +kernel
theorem dX10_held_33 : decode cX10_held 33 = .ok (.iload 8, 2) := by decide +kernel
theorem dX10_held_35 : decode cX10_held 35 = .ok (.iconst 2, 1) := by decide +kernel
theorem dX10_held_36 : decode cX10_held 36 = .ok (.iadd, 1) := by decide +kernel
theorem dX10_held_37 : decode cX10_held 37 = .ok (.iaload, 1) := by decide +kernel
theorem dX10_held_38 : decode cX10_held 38 = .ok (.invokestatic 61, 3) := by decide +kernel
theorem dX10_held_41 : decode cX10_held 41 = .ok (.iadd, 1) := by decide +kernel
theorem dX10_held_42 : decode cX10_held 42 = .ok (.istore 4, 2) := by decide +kernel
theorem dX10_held_44 : decode cX10_held 44 = .ok (.aload_n 0, 1) := by decide +kernel
theorem dX10_held_45 : decode cX10_held 45 = .ok (.getfield 7, 3) := by decide +kernel
theorem dX10_held_48 : decode cX10_held 48 = .ok (.iload 8, 2) := by decide +kernel
theorem dX10_held_50 : decode cX10_held 50 = .ok (.iconst 3, 1) := by decide +kernel
theorem dX10_held_51 : decode cX10_held 51 = .ok (.iadd, 1) := by decide +kernel
theorem dX10_held_52 : decode cX10_held 52 = .ok (.iaload, 1) := by decide +kernel
theorem dX10_held_53 : decode cX10_held 53 = .ok (.iconst 1, 1) := by decide +kernel
theorem dX10_held_54 : decode cX10_held 54 = .ok (.if_icmp .ne 19, 3) := by decide +kernel
theorem dX10_held_57 : decode cX10_held 57 = .ok (.aload_n 0, 1) := by decide +kernel
theorem dX10_held_58 : decode cX10_held 58 = .ok (.iload 5, 2) := by decide +kernel
theorem dX10_held_60 : decode cX10_held 60 = .ok (.iload_n 2, 1) := by decide +kernel
theorem dX10_held_61 : decode cX10_held 61 = .ok (.iload 6, 2) := by decide +kernel
theorem dX10_held_63 : decode cX10_held 63 = .ok (.invokevirtual 105, 3) := by decide +kernel
theorem dX10_held_66 : decode cX10_held 66 = .ok (.ifCond .eq 7, 3) := by decide +kernel
theorem dX10_held_69 : decode cX10_held 69 = .ok (.iconst 1, 1) := by decide +kernel
theorem dX10_held_70 : decode cX10_held 70 = .ok (.goto 4, 3) := by decide +kernel
theorem dX10_held_73 : decode cX10_held 73 = .ok (.iconst 0, 1) := by decide +kernel
theorem dX10_held_74 : decode cX10_held 74 = .ok (.istore 7, 2) := by decide +kernel
theorem dX10_held_76 : decode cX10_held 76 = .ok (.iload 7, 2) := by decide +kernel
theorem dX10_held_78 : decode cX10_held 78 = .ok (.ifCond .eq 10, 3) := by decide +kernel
theorem dX10_held_81 : decode cX10_held 81 = .ok (.aload_n 0, 1) := by decide +kernel
theorem dX10_held_82 : decode cX10_held 82 = .ok (.getfield 99, 3) := by decide +kernel
theorem dX10_held_85 : decode cX10_held 85 = .ok (.goto 5, 3) := by decide +kernel
theorem dX10_held_88 : decode cX10_held 88 = .ok (.iload 5, 2) := by decide +kernel
theorem dX10_held_90 : decode cX10_held 90 = .ok (.istore 5, 2) := by decide +kernel
theorem dX10_held_92 : decode cX10_held 92 = .ok (.iload 7, 2) := by decide +kernel
theorem dX10_held_94 : decode cX10_held 94 = .ok (.ifCond .eq 10, 3) := by decide +kernel
theorem dX10_held_97 : decode cX10_held 97 = .ok (.aload_n 0, 1) := by decide +kernel
theorem dX10_held_98 : decode cX10_held 98 = .ok (.getfield 102, 3) := by decide +kernel
theorem dX10_held_101 : decode cX10_held 101 = .ok (.goto 5, 3) := by decide +kernel
theorem dX10_held_104 : decode cX10_held 104 = .ok (.iload 6, 2) := by decide +kernel
theorem dX10_held_106 : decode cX10_held 106 = .ok (.istore 6, 2) := by decide +kernel
theorem dX10_held_108 : decode cX10_held 108 = .ok (.goto (-96), 3) := by decide +kernel
theorem dX10_held_111 : decode cX10_held 111 = .ok (.iload 4, 2) := by decide +kernel
theorem dX10_held_113 : decode cX10_held 113 = .ok (.ireturn, 1) := by decide +kernel
theorem dX10_isBroken_0 : decode cX10_isBroken 0 = .ok (.aload_n 0, 1) := by decide +kernel
theorem dX10_isBroken_1 : decode cX10_isBroken 1 = .ok (.getfield 7, 3) := by decide +kernel
theorem dX10_isBroken_4 : decode cX10_isBroken 4 = .ok (.iload_n 1, 1) := by decide +kernel
theorem dX10_isBroken_5 : decode cX10_isBroken 5 = .ok (.iload_n 2, 1) := by decide +kernel
theorem dX10_isBroken_6 : decode cX10_isBroken 6 = .ok (.iload_n 3, 1) := by decide +kernel
theorem dX10_isBroken_7 : decode cX10_isBroken 7 = .ok (.invokestatic 57, 3) := by decide +kernel
theorem dX10_isBroken_10 : decode cX10_isBroken 10 = .ok (.iconst 3, 1) := by decide +kernel
theorem dX10_isBroken_11 : decode cX10_isBroken 11 = .ok (.iadd, 1) := by decide +kernel
theorem dX10_isBroken_12 : decode cX10_isBroken 12 = .ok (.iaload, 1) := by decide +kernel
theorem dX10_isBroken_13 : decode cX10_isBroken 13 = .ok (.iconst 1, 1) := by decide +kernel
theorem dX10_isBroken_14 : decode cX10_isBroken 14 = .ok (.if_icmp .ne 17, 3) := by decide +kernel
theorem dX10_isBroken_17 : decode cX10_isBroken 17 = .ok (.aload_n 0, 1) := by decide +kernel
theorem dX10_isBroken_18 : decode cX10_isBroken 18 = .ok (.iload_n 1, 1) := by decide +kernel
theorem dX10_isBroken_19 : decode cX10_isBroken 19 = .ok (.iload_n 2, 1) := by decide +kernel
theorem dX10_isBroken_20 : decode cX10_isBroken 20 = .ok (.iload_n 3, 1) := by decide +kernel
theorem dX10_isBroken_21 : decode cX10_isBroken 21 = .ok (.invokevirtual 105, 3) := by decide +kernel
theorem dX10_isBroken_24 : decode cX10_isBroken 24 = .ok (.ifCond .ne 7, 3) := by decide +kernel
theorem dX10_isBroken_27 : decode cX10_isBroken 27 = .ok (.iconst 1, 1) := by decide +kernel
theorem dX10_isBroken_28 : decode cX10_isBroken 28 = .ok (.goto 4, 3) := by decide +kernel
theorem dX10_isBroken_31 : decode cX10_isBroken 31 = .ok (.iconst 0, 1) := by decide +kernel
theorem dX10_isBroken_32 : decode cX10_isBroken 32 = .ok (.ireturn, 1) := by decide +kernel
theorem dX10_measureTold_0 : decode cX10_measureTold 0 = .ok (.iload_n 2, 1) := by decide +kernel
theorem dX10_measureTold_1 : decode cX10_measureTold 1 = .ok (.bipush 6, 2) := by decide +kernel
theorem dX10_measureTold_3 : decode cX10_measureTold 3 = .ok (.if_icmp .gt 10, 3) := by decide +kernel
theorem dX10_measureTold_6 : decode cX10_measureTold 6 = .ok (.aload_n 0, 1) := by decide +kernel
theorem dX10_measureTold_7 : decode cX10_measureTold 7 = .ok (.iload_n 1, 1) := by decide +kernel
theorem dX10_measureTold_8 : decode cX10_measureTold 8 = .ok (.iload_n 2, 1) := by decide +kernel
theorem dX10_measureTold_9 : decode cX10_measureTold 9 = .ok (.invokevirtual 53, 3) := by decide +kernel
theorem dX10_measureTold_12 : decode cX10_measureTold 12 = .ok (.ireturn, 1) := by decide +kernel
theorem dX10_measureTold_13 : decode cX10_measureTold 13 = .ok (.iload_n 2, 1) := by decide +kernel
theorem dX10_measureTold_14 : decode cX10_measureTold 14 = .ok (.bipush 7, 2) := by decide +kernel
theorem dX10_measureTold_16 : decode cX10_measureTold 16 = .ok (.if_icmp .ne 9, 3) := by decide +kernel
theorem dX10_measureTold_19 : decode cX10_measureTold 19 = .ok (.aload_n 0, 1) := by decide +kernel
theorem dX10_measureTold_20 : decode cX10_measureTold 20 = .ok (.iload_n 1, 1) := by decide +kernel
theorem dX10_measureTold_21 : decode cX10_measureTold 21 = .ok (.invokevirtual 108, 3) := by decide +kernel
theorem dX10_measureTold_24 : decode cX10_measureTold 24 = .ok (.ireturn, 1) := by decide +kernel
theorem dX10_measureTold_25 : decode cX10_measureTold 25 = .ok (.iload_n 2, 1) := by decide +kernel
theorem dX10_measureTold_26 : decode cX10_measureTold 26 = .ok (.bipush 10, 2) := by decide +kernel
theorem dX10_measureTold_28 : decode cX10_measureTold 28 = .ok (.if_icmp .ge 18, 3) := by decide +kernel
theorem dX10_measureTold_31 : decode cX10_measureTold 31 = .ok (.aload_n 0, 1) := by decide +kernel
theorem dX10_measureTold_32 : decode cX10_measureTold 32 = .ok (.iload_n 1, 1) := by decide +kernel
theorem dX10_measureTold_33 : decode cX10_measureTold 33 = .ok (.bipush 7, 2) := by decide +kernel
theorem dX10_measureTold_35 : decode cX10_measureTold 35 = .ok (.iload_n 2, 1) := by decide +kernel
theorem dX10_measureTold_36 : decode cX10_measureTold 36 = .ok (.iadd, 1) := by decide +kernel
theorem dX10_measureTold_37 : decode cX10_measureTold 37 = .ok (.bipush 8, 2) := by decide +kernel
theorem dX10_measureTold_39 : decode cX10_measureTold 39 = .ok (.isub, 1) := by decide +kernel
theorem dX10_measureTold_40 : decode cX10_measureTold 40 = .ok (.invokevirtual 53, 3) := by decide +kernel
theorem dX10_measureTold_43 : decode cX10_measureTold 43 = .ok (.goto 24, 3) := by decide +kernel
theorem dX10_measureTold_46 : decode cX10_measureTold 46 = .ok (.aload_n 0, 1) := by decide +kernel
theorem dX10_measureTold_47 : decode cX10_measureTold 47 = .ok (.iload_n 1, 1) := by decide +kernel
theorem dX10_measureTold_48 : decode cX10_measureTold 48 = .ok (.iload_n 2, 1) := by decide +kernel
theorem dX10_measureTold_49 : decode cX10_measureTold 49 = .ok (.bipush 10, 2) := by decide +kernel
theorem dX10_measureTold_51 : decode cX10_measureTold 51 = .ok (.isub, 1) := by decide +kernel
theorem dX10_measureTold_52 : decode cX10_measureTold 52 = .ok (.aload_n 0, 1) := by decide +kernel
theorem dX10_measureTold_53 : decode cX10_measureTold 53 = .ok (.iload_n 1, 1) := by decide +kernel
theorem dX10_measureTold_54 : decode cX10_measureTold 54 = .ok (.bipush 7, 2) := by decide +kernel
theorem dX10_measureTold_56 : decode cX10_measureTold 56 = .ok (.iload_n 2, 1) := by decide +kernel
theorem dX10_measureTold_57 : decode cX10_measureTold 57 = .ok (.iadd, 1) := by decide +kernel
theorem dX10_measureTold_58 : decode cX10_measureTold 58 = .ok (.bipush 10, 2) := by decide +kernel
theorem dX10_measureTold_60 : decode cX10_measureTold 60 = .ok (.isub, 1) := by decide +kernel
theorem dX10_measureTold_61 : decode cX10_measureTold 61 = .ok (.invokevirtual 53, 3) := by decide +kernel
theorem dX10_measureTold_64 : decode cX10_measureTold 64 = .ok (.invokevirtual 111, 3) := by decide +kernel
theorem dX10_measureTold_67 : decode cX10_measureTold 67 = .ok (.ireturn, 1) := by decide +kernel
theorem dX10_measure_0 : decode cX10_measure 0 = .ok (.aload_n 0, 1) := by decide +kernel
theorem dX10_measure_1 : decode cX10_measure 1 = .ok (.aload_n 0, 1) := by decide +kernel
theorem dX10_measure_2 : decode cX10_measure 2 = .ok (.iload_n 1, 1) := by decide +kernel
theorem dX10_measure_3 : decode cX10_measure 3 = .ok (.invokevirtual 46, 3) := by decide +kernel
theorem dX10_measure_6 : decode cX10_measure 6 = .ok (.ifCond .ne 7, 3) := by decide +kernel
theorem dX10_measure_9 : decode cX10_measure 9 = .ok (.iconst 1, 1) := by decide +kernel
theorem dX10_measure_10 : decode cX10_measure 10 = .ok (.goto 18, 3) := by decide +kernel
theorem dX10_measure_13 : decode cX10_measure 13 = .ok (.iload_n 2, 1) := by decide +kernel
theorem dX10_measure_14 : decode cX10_measure 14 = .ok (.iconst 0, 1) := by decide +kernel
theorem dX10_measure_15 : decode cX10_measure 15 = .ok (.bipush 11, 2) := by decide +kernel
theorem dX10_measure_17 : decode cX10_measure 17 = .ok (.invokestatic 42, 3) := by decide +kernel
theorem dX10_measure_20 : decode cX10_measure 20 = .ok (.ifCond .eq 7, 3) := by decide +kernel
theorem dX10_measure_23 : decode cX10_measure 23 = .ok (.iconst 0, 1) := by decide +kernel
theorem dX10_measure_24 : decode cX10_measure 24 = .ok (.goto 4, 3) := by decide +kernel
theorem dX10_measure_27 : decode cX10_measure 27 = .ok (.iconst 2, 1) := by decide +kernel
theorem dX10_measure_28 : decode cX10_measure 28 = .ok (.invokevirtual 38, 3) := by decide +kernel
theorem dX10_measure_31 : decode cX10_measure 31 = .ok (.ifCond .eq 7, 3) := by decide +kernel
theorem dX10_measure_34 : decode cX10_measure 34 = .ok (.iconst 0, 1) := by decide +kernel
theorem dX10_measure_35 : decode cX10_measure 35 = .ok (.goto 9, 3) := by decide +kernel
theorem dX10_measure_38 : decode cX10_measure 38 = .ok (.aload_n 0, 1) := by decide +kernel
theorem dX10_measure_39 : decode cX10_measure 39 = .ok (.iload_n 1, 1) := by decide +kernel
theorem dX10_measure_40 : decode cX10_measure 40 = .ok (.iload_n 2, 1) := by decide +kernel
theorem dX10_measure_41 : decode cX10_measure 41 = .ok (.invokevirtual 114, 3) := by decide +kernel
theorem dX10_measure_44 : decode cX10_measure 44 = .ok (.ireturn, 1) := by decide +kernel
theorem dX10_eventTold_0 : decode cX10_eventTold 0 = .ok (.iload_n 1, 1) := by decide +kernel
theorem dX10_eventTold_1 : decode cX10_eventTold 1 = .ok (.iload_n 2, 1) := by decide +kernel
theorem dX10_eventTold_2 : decode cX10_eventTold 2 = .ok (.iload_n 3, 1) := by decide +kernel
theorem dX10_eventTold_3 : decode cX10_eventTold 3 = .ok (.invokestatic 57, 3) := by decide +kernel
theorem dX10_eventTold_6 : decode cX10_eventTold 6 = .ok (.istore 5, 2) := by decide +kernel
theorem dX10_eventTold_8 : decode cX10_eventTold 8 = .ok (.aload_n 0, 1) := by decide +kernel
theorem dX10_eventTold_9 : decode cX10_eventTold 9 = .ok (.iload_n 1, 1) := by decide +kernel
theorem dX10_eventTold_10 : decode cX10_eventTold 10 = .ok (.iload_n 2, 1) := by decide +kernel
theorem dX10_eventTold_11 : decode cX10_eventTold 11 = .ok (.iload_n 3, 1) := by decide +kernel
theorem dX10_eventTold_12 : decode cX10_eventTold 12 = .ok (.invokevirtual 117, 3) := by decide +kernel
theorem dX10_eventTold_15 : decode cX10_eventTold 15 = .ok (.ifCond .ne 25, 3) := by decide +kernel
theorem dX10_eventTold_18 : decode cX10_eventTold 18 = .ok (.iload 4, 2) := by decide +kernel
theorem dX10_eventTold_20 : decode cX10_eventTold 20 = .ok (.iconst 2, 1) := by decide +kernel
theorem dX10_eventTold_21 : decode cX10_eventTold 21 = .ok (.if_icmp .eq 19, 3) := by decide +kernel
theorem dX10_eventTold_24 : decode cX10_eventTold 24 = .ok (.iload 4, 2) := by decide +kernel
theorem dX10_eventTold_26 : decode cX10_eventTold 26 = .ok (.iconst 4, 1) := by decide +kernel
theorem dX10_eventTold_27 : decode cX10_eventTold 27 = .ok (.if_icmp .eq 13, 3) := by decide +kernel
theorem dX10_eventTold_30 : decode cX10_eventTold 30 = .ok (.iload 4, 2) := by decide +kernel
theorem dX10_eventTold_32 : decode cX10_eventTold 32 = .ok (.iconst 5, 1) := by decide +kernel
theorem dX10_eventTold_33 : decode cX10_eventTold 33 = .ok (.if_icmp .eq 7, 3) := by decide +kernel
theorem dX10_eventTold_36 : decode cX10_eventTold 36 = .ok (.sipush (-1000), 3) := by decide +kernel
theorem dX10_eventTold_39 : decode cX10_eventTold 39 = .ok (.ireturn, 1) := by decide +kernel
theorem dX10_eventTold_40 : decode cX10_eventTold 40 = .ok (.iload 4, 2) := by decide +kernel
theorem dX10_eventTold_42 : decode cX10_eventTold 42 = .ok (.tableswitch 99 4 9 #[38, 51, 59, 67, 75, 83], 38) := by decide +kernel
theorem dX10_eventTold_80 : decode cX10_eventTold 80 = .ok (.aload_n 0, 1) := by decide +kernel
theorem dX10_eventTold_81 : decode cX10_eventTold 81 = .ok (.getfield 7, 3) := by decide +kernel
theorem dX10_eventTold_84 : decode cX10_eventTold 84 = .ok (.iload 5, 2) := by decide +kernel
theorem dX10_eventTold_86 : decode cX10_eventTold 86 = .ok (.iconst 2, 1) := by decide +kernel
theorem dX10_eventTold_87 : decode cX10_eventTold 87 = .ok (.iadd, 1) := by decide +kernel
theorem dX10_eventTold_88 : decode cX10_eventTold 88 = .ok (.iaload, 1) := by decide +kernel
theorem dX10_eventTold_89 : decode cX10_eventTold 89 = .ok (.invokestatic 61, 3) := by decide +kernel
theorem dX10_eventTold_92 : decode cX10_eventTold 92 = .ok (.ireturn, 1) := by decide +kernel
theorem dX10_eventTold_93 : decode cX10_eventTold 93 = .ok (.aload_n 0, 1) := by decide +kernel
theorem dX10_eventTold_94 : decode cX10_eventTold 94 = .ok (.iload_n 1, 1) := by decide +kernel
theorem dX10_eventTold_95 : decode cX10_eventTold 95 = .ok (.iload_n 2, 1) := by decide +kernel
theorem dX10_eventTold_96 : decode cX10_eventTold 96 = .ok (.iload_n 3, 1) := by decide +kernel
theorem dX10_eventTold_97 : decode cX10_eventTold 97 = .ok (.invokevirtual 111, 3) := by decide +kernel
theorem dX10_eventTold_100 : decode cX10_eventTold 100 = .ok (.ireturn, 1) := by decide +kernel
theorem dX10_eventTold_101 : decode cX10_eventTold 101 = .ok (.aload_n 0, 1) := by decide +kernel
theorem dX10_eventTold_102 : decode cX10_eventTold 102 = .ok (.iload_n 1, 1) := by decide +kernel
theorem dX10_eventTold_103 : decode cX10_eventTold 103 = .ok (.iload_n 2, 1) := by decide +kernel
theorem dX10_eventTold_104 : decode cX10_eventTold 104 = .ok (.iload_n 3, 1) := by decide +kernel
theorem dX10_eventTold_105 : decode cX10_eventTold 105 = .ok (.invokevirtual 96, 3) := by decide +kernel
theorem dX10_eventTold_108 : decode cX10_eventTold 108 = .ok (.ireturn, 1) := by decide +kernel
theorem dX10_eventTold_109 : decode cX10_eventTold 109 = .ok (.aload_n 0, 1) := by decide +kernel
theorem dX10_eventTold_110 : decode cX10_eventTold 110 = .ok (.iload_n 1, 1) := by decide +kernel
theorem dX10_eventTold_111 : decode cX10_eventTold 111 = .ok (.iload_n 2, 1) := by decide +kernel
theorem dX10_eventTold_112 : decode cX10_eventTold 112 = .ok (.iload_n 3, 1) := by decide +kernel
theorem dX10_eventTold_113 : decode cX10_eventTold 113 = .ok (.invokevirtual 120, 3) := by decide +kernel
theorem dX10_eventTold_116 : decode cX10_eventTold 116 = .ok (.ireturn, 1) := by decide +kernel
theorem dX10_eventTold_117 : decode cX10_eventTold 117 = .ok (.aload_n 0, 1) := by decide +kernel
theorem dX10_eventTold_118 : decode cX10_eventTold 118 = .ok (.iload_n 1, 1) := by decide +kernel
theorem dX10_eventTold_119 : decode cX10_eventTold 119 = .ok (.iload_n 2, 1) := by decide +kernel
theorem dX10_eventTold_120 : decode cX10_eventTold 120 = .ok (.iload_n 3, 1) := by decide +kernel
theorem dX10_eventTold_121 : decode cX10_eventTold 121 = .ok (.invokevirtual 123, 3) := by decide +kernel
theorem dX10_eventTold_124 : decode cX10_eventTold 124 = .ok (.ireturn, 1) := by decide +kernel
theorem dX10_eventTold_125 : decode cX10_eventTold 125 = .ok (.aload_n 0, 1) := by decide +kernel
theorem dX10_eventTold_126 : decode cX10_eventTold 126 = .ok (.iload_n 1, 1) := by decide +kernel
theorem dX10_eventTold_127 : decode cX10_eventTold 127 = .ok (.iload_n 2, 1) := by decide +kernel
theorem dX10_eventTold_128 : decode cX10_eventTold 128 = .ok (.iload_n 3, 1) := by decide +kernel
theorem dX10_eventTold_129 : decode cX10_eventTold 129 = .ok (.invokevirtual 126, 3) := by decide +kernel
theorem dX10_eventTold_132 : decode cX10_eventTold 132 = .ok (.ifCond .eq 7, 3) := by decide +kernel
theorem dX10_eventTold_135 : decode cX10_eventTold 135 = .ok (.iconst 1, 1) := by decide +kernel
theorem dX10_eventTold_136 : decode cX10_eventTold 136 = .ok (.goto 4, 3) := by decide +kernel
theorem dX10_eventTold_139 : decode cX10_eventTold 139 = .ok (.iconst 0, 1) := by decide +kernel
theorem dX10_eventTold_140 : decode cX10_eventTold 140 = .ok (.ireturn, 1) := by decide +kernel
theorem dX10_eventTold_141 : decode cX10_eventTold 141 = .ok (.aload_n 0, 1) := by decide +kernel
theorem dX10_eventTold_142 : decode cX10_eventTold 142 = .ok (.getfield 7, 3) := by decide +kernel
theorem dX10_eventTold_145 : decode cX10_eventTold 145 = .ok (.iload 5, 2) := by decide +kernel
theorem dX10_eventTold_147 : decode cX10_eventTold 147 = .ok (.iload 4, 2) := by decide +kernel
theorem dX10_eventTold_149 : decode cX10_eventTold 149 = .ok (.iadd, 1) := by decide +kernel
theorem dX10_eventTold_150 : decode cX10_eventTold 150 = .ok (.iaload, 1) := by decide +kernel
theorem dX10_eventTold_151 : decode cX10_eventTold 151 = .ok (.ireturn, 1) := by decide +kernel
theorem dX10_event_0 : decode cX10_event 0 = .ok (.aload_n 0, 1) := by decide +kernel
theorem dX10_event_1 : decode cX10_event 1 = .ok (.aload_n 0, 1) := by decide +kernel
theorem dX10_event_2 : decode cX10_event 2 = .ok (.iload_n 1, 1) := by decide +kernel
theorem dX10_event_3 : decode cX10_event 3 = .ok (.iload_n 2, 1) := by decide +kernel
theorem dX10_event_4 : decode cX10_event 4 = .ok (.iload_n 3, 1) := by decide +kernel
theorem dX10_event_5 : decode cX10_event 5 = .ok (.invokevirtual 84, 3) := by decide +kernel
theorem dX10_event_8 : decode cX10_event 8 = .ok (.ifCond .ne 7, 3) := by decide +kernel
theorem dX10_event_11 : decode cX10_event 11 = .ok (.iconst 1, 1) := by decide +kernel
theorem dX10_event_12 : decode cX10_event 12 = .ok (.goto 19, 3) := by decide +kernel
theorem dX10_event_15 : decode cX10_event 15 = .ok (.iload 4, 2) := by decide +kernel
theorem dX10_event_17 : decode cX10_event 17 = .ok (.iconst 0, 1) := by decide +kernel
theorem dX10_event_18 : decode cX10_event 18 = .ok (.bipush 9, 2) := by decide +kernel
theorem dX10_event_20 : decode cX10_event 20 = .ok (.invokestatic 42, 3) := by decide +kernel
theorem dX10_event_23 : decode cX10_event 23 = .ok (.ifCond .eq 7, 3) := by decide +kernel
theorem dX10_event_26 : decode cX10_event 26 = .ok (.iconst 0, 1) := by decide +kernel
theorem dX10_event_27 : decode cX10_event 27 = .ok (.goto 4, 3) := by decide +kernel
theorem dX10_event_30 : decode cX10_event 30 = .ok (.iconst 2, 1) := by decide +kernel
theorem dX10_event_31 : decode cX10_event 31 = .ok (.invokevirtual 38, 3) := by decide +kernel
theorem dX10_event_34 : decode cX10_event 34 = .ok (.ifCond .eq 5, 3) := by decide +kernel
theorem dX10_event_37 : decode cX10_event 37 = .ok (.iconst 0, 1) := by decide +kernel
theorem dX10_event_38 : decode cX10_event 38 = .ok (.ireturn, 1) := by decide +kernel
theorem dX10_event_39 : decode cX10_event 39 = .ok (.aload_n 0, 1) := by decide +kernel
theorem dX10_event_40 : decode cX10_event 40 = .ok (.iload_n 1, 1) := by decide +kernel
theorem dX10_event_41 : decode cX10_event 41 = .ok (.iload_n 2, 1) := by decide +kernel
theorem dX10_event_42 : decode cX10_event 42 = .ok (.iload_n 3, 1) := by decide +kernel
theorem dX10_event_43 : decode cX10_event 43 = .ok (.iload 4, 2) := by decide +kernel
theorem dX10_event_45 : decode cX10_event 45 = .ok (.invokevirtual 129, 3) := by decide +kernel
theorem dX10_event_48 : decode cX10_event 48 = .ok (.ireturn, 1) := by decide +kernel
theorem dX10_eventAt_0 : decode cX10_eventAt 0 = .ok (.aload_n 0, 1) := by decide +kernel
theorem dX10_eventAt_1 : decode cX10_eventAt 1 = .ok (.aload_n 0, 1) := by decide +kernel
theorem dX10_eventAt_2 : decode cX10_eventAt 2 = .ok (.iload_n 1, 1) := by decide +kernel
theorem dX10_eventAt_3 : decode cX10_eventAt 3 = .ok (.iload_n 2, 1) := by decide +kernel
theorem dX10_eventAt_4 : decode cX10_eventAt 4 = .ok (.invokevirtual 49, 3) := by decide +kernel
theorem dX10_eventAt_7 : decode cX10_eventAt 7 = .ok (.ifCond .ne 7, 3) := by decide +kernel
theorem dX10_eventAt_10 : decode cX10_eventAt 10 = .ok (.iconst 1, 1) := by decide +kernel
theorem dX10_eventAt_11 : decode cX10_eventAt 11 = .ok (.goto 12, 3) := by decide +kernel
theorem dX10_eventAt_14 : decode cX10_eventAt 14 = .ok (.iload_n 3, 1) := by decide +kernel
theorem dX10_eventAt_15 : decode cX10_eventAt 15 = .ok (.ifCond .ge 7, 3) := by decide +kernel
theorem dX10_eventAt_18 : decode cX10_eventAt 18 = .ok (.iconst 2, 1) := by decide +kernel
theorem dX10_eventAt_19 : decode cX10_eventAt 19 = .ok (.goto 4, 3) := by decide +kernel
theorem dX10_eventAt_22 : decode cX10_eventAt 22 = .ok (.iconst 0, 1) := by decide +kernel
theorem dX10_eventAt_23 : decode cX10_eventAt 23 = .ok (.invokevirtual 38, 3) := by decide +kernel
theorem dX10_eventAt_26 : decode cX10_eventAt 26 = .ok (.ifCond .eq 5, 3) := by decide +kernel
theorem dX10_eventAt_29 : decode cX10_eventAt 29 = .ok (.iconst 0, 1) := by decide +kernel
theorem dX10_eventAt_30 : decode cX10_eventAt 30 = .ok (.ireturn, 1) := by decide +kernel
theorem dX10_eventAt_31 : decode cX10_eventAt 31 = .ok (.iload_n 3, 1) := by decide +kernel
theorem dX10_eventAt_32 : decode cX10_eventAt 32 = .ok (.istore 4, 2) := by decide +kernel
theorem dX10_eventAt_34 : decode cX10_eventAt 34 = .ok (.iconst 0, 1) := by decide +kernel
theorem dX10_eventAt_35 : decode cX10_eventAt 35 = .ok (.istore 5, 2) := by decide +kernel
theorem dX10_eventAt_37 : decode cX10_eventAt 37 = .ok (.iload 5, 2) := by decide +kernel
theorem dX10_eventAt_39 : decode cX10_eventAt 39 = .ok (.aload_n 0, 1) := by decide +kernel
theorem dX10_eventAt_40 : decode cX10_eventAt 40 = .ok (.iload_n 1, 1) := by decide +kernel
theorem dX10_eventAt_41 : decode cX10_eventAt 41 = .ok (.bipush 7, 2) := by decide +kernel
theorem dX10_eventAt_43 : decode cX10_eventAt 43 = .ok (.iload_n 2, 1) := by decide +kernel
theorem dX10_eventAt_44 : decode cX10_eventAt 44 = .ok (.iadd, 1) := by decide +kernel
theorem dX10_eventAt_45 : decode cX10_eventAt 45 = .ok (.invokevirtual 53, 3) := by decide +kernel
theorem dX10_eventAt_48 : decode cX10_eventAt 48 = .ok (.if_icmp .ge 39, 3) := by decide +kernel
theorem dX10_eventAt_51 : decode cX10_eventAt 51 = .ok (.iload 4, 2) := by decide +kernel
theorem dX10_eventAt_53 : decode cX10_eventAt 53 = .ok (.aload_n 0, 1) := by decide +kernel
theorem dX10_eventAt_54 : decode cX10_eventAt 54 = .ok (.getfield 7, 3) := by decide +kernel
theorem dX10_eventAt_57 : decode cX10_eventAt 57 = .ok (.iload_n 1, 1) := by decide +kernel
theorem dX10_eventAt_58 : decode cX10_eventAt 58 = .ok (.iload_n 2, 1) := by decide +kernel
theorem dX10_eventAt_59 : decode cX10_eventAt 59 = .ok (.iload 5, 2) := by decide +kernel
theorem dX10_eventAt_61 : decode cX10_eventAt 61 = .ok (.invokestatic 57, 3) := by decide +kernel
theorem dX10_eventAt_64 : decode cX10_eventAt 64 = .ok (.iconst 2, 1) := by decide +kernel
theorem dX10_eventAt_65 : decode cX10_eventAt 65 = .ok (.iadd, 1) := by decide +kernel
theorem dX10_eventAt_66 : decode cX10_eventAt 66 = .ok (.iaload, 1) := by decide +kernel
theorem dX10_eventAt_67 : decode cX10_eventAt 67 = .ok (.invokestatic 61, 3) := by decide +kernel
theorem dX10_eventAt_70 : decode cX10_eventAt 70 = .ok (.isub, 1) := by decide +kernel
theorem dX10_eventAt_71 : decode cX10_eventAt 71 = .ok (.istore 4, 2) := by decide +kernel
theorem dX10_eventAt_73 : decode cX10_eventAt 73 = .ok (.iload 4, 2) := by decide +kernel
theorem dX10_eventAt_75 : decode cX10_eventAt 75 = .ok (.ifCond .ge 6, 3) := by decide +kernel
theorem dX10_eventAt_78 : decode cX10_eventAt 78 = .ok (.iload 5, 2) := by decide +kernel
theorem dX10_eventAt_80 : decode cX10_eventAt 80 = .ok (.ireturn, 1) := by decide +kernel
theorem dX10_eventAt_81 : decode cX10_eventAt 81 = .ok (.iinc 5 1, 3) := by decide +kernel
theorem dX10_eventAt_84 : decode cX10_eventAt 84 = .ok (.goto (-47), 3) := by decide +kernel
theorem dX10_eventAt_87 : decode cX10_eventAt 87 = .ok (.sipush (-1000), 3) := by decide +kernel
theorem dX10_eventAt_90 : decode cX10_eventAt 90 = .ok (.ireturn, 1) := by decide +kernel
theorem dX10_together_0 : decode cX10_together 0 = .ok (.aload_n 0, 1) := by decide +kernel
theorem dX10_together_1 : decode cX10_together 1 = .ok (.iload_n 1, 1) := by decide +kernel
theorem dX10_together_2 : decode cX10_together 2 = .ok (.iconst 0, 1) := by decide +kernel
theorem dX10_together_3 : decode cX10_together 3 = .ok (.iload_n 2, 1) := by decide +kernel
theorem dX10_together_4 : decode cX10_together 4 = .ok (.invokevirtual 111, 3) := by decide +kernel
theorem dX10_together_7 : decode cX10_together 7 = .ok (.istore 4, 2) := by decide +kernel
theorem dX10_together_9 : decode cX10_together 9 = .ok (.aload_n 0, 1) := by decide +kernel
theorem dX10_together_10 : decode cX10_together 10 = .ok (.iload_n 1, 1) := by decide +kernel
theorem dX10_together_11 : decode cX10_together 11 = .ok (.iconst 1, 1) := by decide +kernel
theorem dX10_together_12 : decode cX10_together 12 = .ok (.iload_n 3, 1) := by decide +kernel
theorem dX10_together_13 : decode cX10_together 13 = .ok (.invokevirtual 111, 3) := by decide +kernel
theorem dX10_together_16 : decode cX10_together 16 = .ok (.istore 5, 2) := by decide +kernel
theorem dX10_together_18 : decode cX10_together 18 = .ok (.aload_n 0, 1) := by decide +kernel
theorem dX10_together_19 : decode cX10_together 19 = .ok (.iload_n 1, 1) := by decide +kernel
theorem dX10_together_20 : decode cX10_together 20 = .ok (.iconst 0, 1) := by decide +kernel
theorem dX10_together_21 : decode cX10_together 21 = .ok (.iload_n 2, 1) := by decide +kernel
theorem dX10_together_22 : decode cX10_together 22 = .ok (.iconst 1, 1) := by decide +kernel
theorem dX10_together_23 : decode cX10_together 23 = .ok (.iadd, 1) := by decide +kernel
theorem dX10_together_24 : decode cX10_together 24 = .ok (.invokevirtual 111, 3) := by decide +kernel
theorem dX10_together_27 : decode cX10_together 27 = .ok (.istore 6, 2) := by decide +kernel
theorem dX10_together_29 : decode cX10_together 29 = .ok (.aload_n 0, 1) := by decide +kernel
theorem dX10_together_30 : decode cX10_together 30 = .ok (.iload_n 1, 1) := by decide +kernel
theorem dX10_together_31 : decode cX10_together 31 = .ok (.iconst 1, 1) := by decide +kernel
theorem dX10_together_32 : decode cX10_together 32 = .ok (.iload_n 3, 1) := by decide +kernel
theorem dX10_together_33 : decode cX10_together 33 = .ok (.iconst 1, 1) := by decide +kernel
theorem dX10_together_34 : decode cX10_together 34 = .ok (.iadd, 1) := by decide +kernel
theorem dX10_together_35 : decode cX10_together 35 = .ok (.invokevirtual 111, 3) := by decide +kernel
theorem dX10_together_38 : decode cX10_together 38 = .ok (.istore 7, 2) := by decide +kernel
theorem dX10_together_40 : decode cX10_together 40 = .ok (.iload 4, 2) := by decide +kernel
theorem dX10_together_42 : decode cX10_together 42 = .ok (.iload 5, 2) := by decide +kernel
theorem dX10_together_44 : decode cX10_together 44 = .ok (.if_icmp .le 8, 3) := by decide +kernel
theorem dX10_together_47 : decode cX10_together 47 = .ok (.iload 4, 2) := by decide +kernel
theorem dX10_together_49 : decode cX10_together 49 = .ok (.goto 5, 3) := by decide +kernel
theorem dX10_together_52 : decode cX10_together 52 = .ok (.iload 5, 2) := by decide +kernel
theorem dX10_together_54 : decode cX10_together 54 = .ok (.istore 8, 2) := by decide +kernel
theorem dX10_together_56 : decode cX10_together 56 = .ok (.iload 6, 2) := by decide +kernel
theorem dX10_together_58 : decode cX10_together 58 = .ok (.iload 7, 2) := by decide +kernel
theorem dX10_together_60 : decode cX10_together 60 = .ok (.if_icmp .ge 8, 3) := by decide +kernel
theorem dX10_together_63 : decode cX10_together 63 = .ok (.iload 6, 2) := by decide +kernel
theorem dX10_together_65 : decode cX10_together 65 = .ok (.goto 5, 3) := by decide +kernel
theorem dX10_together_68 : decode cX10_together 68 = .ok (.iload 7, 2) := by decide +kernel
theorem dX10_together_70 : decode cX10_together 70 = .ok (.istore 9, 2) := by decide +kernel
theorem dX10_together_72 : decode cX10_together 72 = .ok (.iload 9, 2) := by decide +kernel
theorem dX10_together_74 : decode cX10_together 74 = .ok (.aload_n 0, 1) := by decide +kernel
theorem dX10_together_75 : decode cX10_together 75 = .ok (.iload_n 1, 1) := by decide +kernel
theorem dX10_together_76 : decode cX10_together 76 = .ok (.invokevirtual 108, 3) := by decide +kernel
theorem dX10_together_79 : decode cX10_together 79 = .ok (.if_icmp .ge 8, 3) := by decide +kernel
theorem dX10_together_82 : decode cX10_together 82 = .ok (.iload 9, 2) := by decide +kernel
theorem dX10_together_84 : decode cX10_together 84 = .ok (.goto 8, 3) := by decide +kernel
theorem dX10_together_87 : decode cX10_together 87 = .ok (.aload_n 0, 1) := by decide +kernel
theorem dX10_together_88 : decode cX10_together 88 = .ok (.iload_n 1, 1) := by decide +kernel
theorem dX10_together_89 : decode cX10_together 89 = .ok (.invokevirtual 108, 3) := by decide +kernel
theorem dX10_together_92 : decode cX10_together 92 = .ok (.istore 9, 2) := by decide +kernel
theorem dX10_together_94 : decode cX10_together 94 = .ok (.iload 9, 2) := by decide +kernel
theorem dX10_together_96 : decode cX10_together 96 = .ok (.iload 8, 2) := by decide +kernel
theorem dX10_together_98 : decode cX10_together 98 = .ok (.if_icmp .le 11, 3) := by decide +kernel
theorem dX10_together_101 : decode cX10_together 101 = .ok (.iload 9, 2) := by decide +kernel
theorem dX10_together_103 : decode cX10_together 103 = .ok (.iload 8, 2) := by decide +kernel
theorem dX10_together_105 : decode cX10_together 105 = .ok (.isub, 1) := by decide +kernel
theorem dX10_together_106 : decode cX10_together 106 = .ok (.goto 4, 3) := by decide +kernel
theorem dX10_together_109 : decode cX10_together 109 = .ok (.iconst 0, 1) := by decide +kernel
theorem dX10_together_110 : decode cX10_together 110 = .ok (.ireturn, 1) := by decide +kernel
theorem dX10_crossed_0 : decode cX10_crossed 0 = .ok (.iconst 0, 1) := by decide +kernel
theorem dX10_crossed_1 : decode cX10_crossed 1 = .ok (.istore_n 2, 1) := by decide +kernel
theorem dX10_crossed_2 : decode cX10_crossed 2 = .ok (.iconst 0, 1) := by decide +kernel
theorem dX10_crossed_3 : decode cX10_crossed 3 = .ok (.istore_n 3, 1) := by decide +kernel
theorem dX10_crossed_4 : decode cX10_crossed 4 = .ok (.iload_n 3, 1) := by decide +kernel
theorem dX10_crossed_5 : decode cX10_crossed 5 = .ok (.aload_n 0, 1) := by decide +kernel
theorem dX10_crossed_6 : decode cX10_crossed 6 = .ok (.iload_n 1, 1) := by decide +kernel
theorem dX10_crossed_7 : decode cX10_crossed 7 = .ok (.bipush 7, 2) := by decide +kernel
theorem dX10_crossed_9 : decode cX10_crossed 9 = .ok (.invokevirtual 53, 3) := by decide +kernel
theorem dX10_crossed_12 : decode cX10_crossed 12 = .ok (.if_icmp .ge 97, 3) := by decide +kernel
theorem dX10_crossed_15 : decode cX10_crossed 15 = .ok (.iconst 0, 1) := by decide +kernel
theorem dX10_crossed_16 : decode cX10_crossed 16 = .ok (.istore 4, 2) := by decide +kernel
theorem dX10_crossed_18 : decode cX10_crossed 18 = .ok (.iload 4, 2) := by decide +kernel
theorem dX10_crossed_20 : decode cX10_crossed 20 = .ok (.aload_n 0, 1) := by decide +kernel
theorem dX10_crossed_21 : decode cX10_crossed 21 = .ok (.iload_n 1, 1) := by decide +kernel
theorem dX10_crossed_22 : decode cX10_crossed 22 = .ok (.bipush 8, 2) := by decide +kernel
theorem dX10_crossed_24 : decode cX10_crossed 24 = .ok (.invokevirtual 53, 3) := by decide +kernel
theorem dX10_crossed_27 : decode cX10_crossed 27 = .ok (.if_icmp .ge 76, 3) := by decide +kernel
theorem dX10_crossed_30 : decode cX10_crossed 30 = .ok (.aload_n 0, 1) := by decide +kernel
theorem dX10_crossed_31 : decode cX10_crossed 31 = .ok (.iload_n 1, 1) := by decide +kernel
theorem dX10_crossed_32 : decode cX10_crossed 32 = .ok (.iconst 0, 1) := by decide +kernel
theorem dX10_crossed_33 : decode cX10_crossed 33 = .ok (.iload_n 3, 1) := by decide +kernel
theorem dX10_crossed_34 : decode cX10_crossed 34 = .ok (.invokevirtual 117, 3) := by decide +kernel
theorem dX10_crossed_37 : decode cX10_crossed 37 = .ok (.ifCond .eq 25, 3) := by decide +kernel
theorem dX10_crossed_40 : decode cX10_crossed 40 = .ok (.aload_n 0, 1) := by decide +kernel
theorem dX10_crossed_41 : decode cX10_crossed 41 = .ok (.iload_n 1, 1) := by decide +kernel
theorem dX10_crossed_42 : decode cX10_crossed 42 = .ok (.iconst 1, 1) := by decide +kernel
theorem dX10_crossed_43 : decode cX10_crossed 43 = .ok (.iload 4, 2) := by decide +kernel
theorem dX10_crossed_45 : decode cX10_crossed 45 = .ok (.invokevirtual 117, 3) := by decide +kernel
theorem dX10_crossed_48 : decode cX10_crossed 48 = .ok (.ifCond .eq 14, 3) := by decide +kernel
theorem dX10_crossed_51 : decode cX10_crossed 51 = .ok (.aload_n 0, 1) := by decide +kernel
theorem dX10_crossed_52 : decode cX10_crossed 52 = .ok (.iload_n 1, 1) := by decide +kernel
theorem dX10_crossed_53 : decode cX10_crossed 53 = .ok (.iload_n 3, 1) := by decide +kernel
theorem dX10_crossed_54 : decode cX10_crossed 54 = .ok (.iload 4, 2) := by decide +kernel
theorem dX10_crossed_56 : decode cX10_crossed 56 = .ok (.invokevirtual 133, 3) := by decide +kernel
theorem dX10_crossed_59 : decode cX10_crossed 59 = .ok (.goto 4, 3) := by decide +kernel
theorem dX10_crossed_62 : decode cX10_crossed 62 = .ok (.iconst 0, 1) := by decide +kernel
theorem dX10_crossed_63 : decode cX10_crossed 63 = .ok (.istore 5, 2) := by decide +kernel
theorem dX10_crossed_65 : decode cX10_crossed 65 = .ok (.iload_n 2, 1) := by decide +kernel
theorem dX10_crossed_66 : decode cX10_crossed 66 = .ok (.iload 5, 2) := by decide +kernel
theorem dX10_crossed_68 : decode cX10_crossed 68 = .ok (.ifCond .le 26, 3) := by decide +kernel
theorem dX10_crossed_71 : decode cX10_crossed 71 = .ok (.aload_n 0, 1) := by decide +kernel
theorem dX10_crossed_72 : decode cX10_crossed 72 = .ok (.iload_n 1, 1) := by decide +kernel
theorem dX10_crossed_73 : decode cX10_crossed 73 = .ok (.iconst 1, 1) := by decide +kernel
theorem dX10_crossed_74 : decode cX10_crossed 74 = .ok (.iload 4, 2) := by decide +kernel
theorem dX10_crossed_76 : decode cX10_crossed 76 = .ok (.invokevirtual 120, 3) := by decide +kernel
theorem dX10_crossed_79 : decode cX10_crossed 79 = .ok (.aload_n 0, 1) := by decide +kernel
theorem dX10_crossed_80 : decode cX10_crossed 80 = .ok (.iload_n 1, 1) := by decide +kernel
theorem dX10_crossed_81 : decode cX10_crossed 81 = .ok (.iconst 0, 1) := by decide +kernel
theorem dX10_crossed_82 : decode cX10_crossed 82 = .ok (.iload_n 3, 1) := by decide +kernel
theorem dX10_crossed_83 : decode cX10_crossed 83 = .ok (.invokevirtual 120, 3) := by decide +kernel
theorem dX10_crossed_86 : decode cX10_crossed 86 = .ok (.if_icmp .le 8, 3) := by decide +kernel
theorem dX10_crossed_89 : decode cX10_crossed 89 = .ok (.iload 5, 2) := by decide +kernel
theorem dX10_crossed_91 : decode cX10_crossed 91 = .ok (.goto 4, 3) := by decide +kernel
theorem dX10_crossed_94 : decode cX10_crossed 94 = .ok (.iconst 0, 1) := by decide +kernel
theorem dX10_crossed_95 : decode cX10_crossed 95 = .ok (.iadd, 1) := by decide +kernel
theorem dX10_crossed_96 : decode cX10_crossed 96 = .ok (.istore_n 2, 1) := by decide +kernel
theorem dX10_crossed_97 : decode cX10_crossed 97 = .ok (.iinc 4 1, 3) := by decide +kernel
theorem dX10_crossed_100 : decode cX10_crossed 100 = .ok (.goto (-82), 3) := by decide +kernel
theorem dX10_crossed_103 : decode cX10_crossed 103 = .ok (.iinc 3 1, 3) := by decide +kernel
theorem dX10_crossed_106 : decode cX10_crossed 106 = .ok (.goto (-102), 3) := by decide +kernel
theorem dX10_crossed_109 : decode cX10_crossed 109 = .ok (.iload_n 2, 1) := by decide +kernel
theorem dX10_crossed_110 : decode cX10_crossed 110 = .ok (.ireturn, 1) := by decide +kernel
theorem dX10_crossings_0 : decode cX10_crossings 0 = .ok (.aload_n 0, 1) := by decide +kernel
theorem dX10_crossings_1 : decode cX10_crossings 1 = .ok (.aload_n 0, 1) := by decide +kernel
theorem dX10_crossings_2 : decode cX10_crossings 2 = .ok (.iload_n 1, 1) := by decide +kernel
theorem dX10_crossings_3 : decode cX10_crossings 3 = .ok (.invokevirtual 46, 3) := by decide +kernel
theorem dX10_crossings_6 : decode cX10_crossings 6 = .ok (.ifCond .eq 7, 3) := by decide +kernel
theorem dX10_crossings_9 : decode cX10_crossings 9 = .ok (.iconst 0, 1) := by decide +kernel
theorem dX10_crossings_10 : decode cX10_crossings 10 = .ok (.goto 4, 3) := by decide +kernel
theorem dX10_crossings_13 : decode cX10_crossings 13 = .ok (.iconst 1, 1) := by decide +kernel
theorem dX10_crossings_14 : decode cX10_crossings 14 = .ok (.invokevirtual 38, 3) := by decide +kernel
theorem dX10_crossings_17 : decode cX10_crossings 17 = .ok (.ifCond .eq 7, 3) := by decide +kernel
theorem dX10_crossings_20 : decode cX10_crossings 20 = .ok (.iconst 0, 1) := by decide +kernel
theorem dX10_crossings_21 : decode cX10_crossings 21 = .ok (.goto 8, 3) := by decide +kernel
theorem dX10_crossings_24 : decode cX10_crossings 24 = .ok (.aload_n 0, 1) := by decide +kernel
theorem dX10_crossings_25 : decode cX10_crossings 25 = .ok (.iload_n 1, 1) := by decide +kernel
theorem dX10_crossings_26 : decode cX10_crossings 26 = .ok (.invokevirtual 136, 3) := by decide +kernel
theorem dX10_crossings_29 : decode cX10_crossings 29 = .ok (.ireturn, 1) := by decide +kernel
theorem dX10_events_0 : decode cX10_events 0 = .ok (.iconst 0, 1) := by decide +kernel
theorem dX10_events_1 : decode cX10_events 1 = .ok (.istore_n 2, 1) := by decide +kernel
theorem dX10_events_2 : decode cX10_events 2 = .ok (.iconst 0, 1) := by decide +kernel
theorem dX10_events_3 : decode cX10_events 3 = .ok (.istore_n 3, 1) := by decide +kernel
theorem dX10_events_4 : decode cX10_events 4 = .ok (.iload_n 3, 1) := by decide +kernel
theorem dX10_events_5 : decode cX10_events 5 = .ok (.aload_n 0, 1) := by decide +kernel
theorem dX10_events_6 : decode cX10_events 6 = .ok (.getfield 7, 3) := by decide +kernel
theorem dX10_events_9 : decode cX10_events 9 = .ok (.iconst 0, 1) := by decide +kernel
theorem dX10_events_10 : decode cX10_events 10 = .ok (.iaload, 1) := by decide +kernel
theorem dX10_events_11 : decode cX10_events 11 = .ok (.if_icmp .ge 131, 3) := by decide +kernel
theorem dX10_events_14 : decode cX10_events 14 = .ok (.iconst 0, 1) := by decide +kernel
theorem dX10_events_15 : decode cX10_events 15 = .ok (.istore 4, 2) := by decide +kernel
theorem dX10_events_17 : decode cX10_events 17 = .ok (.iload 4, 2) := by decide +kernel
theorem dX10_events_19 : decode cX10_events 19 = .ok (.iconst 2, 1) := by decide +kernel
theorem dX10_events_20 : decode cX10_events 20 = .ok (.if_icmp .ge 116, 3) := by decide +kernel
theorem dX10_events_23 : decode cX10_events 23 = .ok (.iconst 0, 1) := by decide +kernel
theorem dX10_events_24 : decode cX10_events 24 = .ok (.istore 5, 2) := by decide +kernel
theorem dX10_events_26 : decode cX10_events 26 = .ok (.iload 5, 2) := by decide +kernel
theorem dX10_events_28 : decode cX10_events 28 = .ok (.aload_n 0, 1) := by decide +kernel
theorem dX10_events_29 : decode cX10_events 29 = .ok (.iload_n 3, 1) := by decide +kernel
theorem dX10_events_30 : decode cX10_events 30 = .ok (.bipush 7, 2) := by decide +kernel
theorem dX10_events_32 : decode cX10_events 32 = .ok (.iload 4, 2) := by decide +kernel
theorem dX10_events_34 : decode cX10_events 34 = .ok (.iadd, 1) := by decide +kernel
theorem dX10_events_35 : decode cX10_events 35 = .ok (.invokevirtual 53, 3) := by decide +kernel
theorem dX10_events_38 : decode cX10_events 38 = .ok (.if_icmp .ge 92, 3) := by decide +kernel
theorem dX10_events_41 : decode cX10_events 41 = .ok (.iload_n 1, 1) := by decide +kernel
theorem dX10_events_42 : decode cX10_events 42 = .ok (.iconst 1, 1) := by decide +kernel
theorem dX10_events_43 : decode cX10_events 43 = .ok (.if_icmp .eq 44, 3) := by decide +kernel
theorem dX10_events_46 : decode cX10_events 46 = .ok (.iload_n 1, 1) := by decide +kernel
theorem dX10_events_47 : decode cX10_events 47 = .ok (.iconst 2, 1) := by decide +kernel
theorem dX10_events_48 : decode cX10_events 48 = .ok (.if_icmp .ne 15, 3) := by decide +kernel
theorem dX10_events_51 : decode cX10_events 51 = .ok (.aload_n 0, 1) := by decide +kernel
theorem dX10_events_52 : decode cX10_events 52 = .ok (.iload_n 3, 1) := by decide +kernel
theorem dX10_events_53 : decode cX10_events 53 = .ok (.iload 4, 2) := by decide +kernel
theorem dX10_events_55 : decode cX10_events 55 = .ok (.iload 5, 2) := by decide +kernel
theorem dX10_events_57 : decode cX10_events 57 = .ok (.invokevirtual 117, 3) := by decide +kernel
theorem dX10_events_60 : decode cX10_events 60 = .ok (.ifCond .ne 27, 3) := by decide +kernel
theorem dX10_events_63 : decode cX10_events 63 = .ok (.iload_n 1, 1) := by decide +kernel
theorem dX10_events_64 : decode cX10_events 64 = .ok (.iconst 3, 1) := by decide +kernel
theorem dX10_events_65 : decode cX10_events 65 = .ok (.if_icmp .ne 26, 3) := by decide +kernel
theorem dX10_events_68 : decode cX10_events 68 = .ok (.aload_n 0, 1) := by decide +kernel
theorem dX10_events_69 : decode cX10_events 69 = .ok (.getfield 7, 3) := by decide +kernel
theorem dX10_events_72 : decode cX10_events 72 = .ok (.iload_n 3, 1) := by decide +kernel
theorem dX10_events_73 : decode cX10_events 73 = .ok (.iload 4, 2) := by decide +kernel
theorem dX10_events_75 : decode cX10_events 75 = .ok (.iload 5, 2) := by decide +kernel
theorem dX10_events_77 : decode cX10_events 77 = .ok (.invokestatic 57, 3) := by decide +kernel
theorem dX10_events_80 : decode cX10_events 80 = .ok (.iconst 3, 1) := by decide +kernel
theorem dX10_events_81 : decode cX10_events 81 = .ok (.iadd, 1) := by decide +kernel
theorem dX10_events_82 : decode cX10_events 82 = .ok (.iaload, 1) := by decide +kernel
theorem dX10_events_83 : decode cX10_events 83 = .ok (.iconst 1, 1) := by decide +kernel
theorem dX10_events_84 : decode cX10_events 84 = .ok (.if_icmp .ne 7, 3) := by decide +kernel
theorem dX10_events_87 : decode cX10_events 87 = .ok (.iconst 1, 1) := by decide +kernel
theorem dX10_events_88 : decode cX10_events 88 = .ok (.goto 4, 3) := by decide +kernel
theorem dX10_events_91 : decode cX10_events 91 = .ok (.iconst 0, 1) := by decide +kernel
theorem dX10_events_92 : decode cX10_events 92 = .ok (.istore 6, 2) := by decide +kernel
theorem dX10_events_94 : decode cX10_events 94 = .ok (.iload_n 2, 1) := by decide +kernel
theorem dX10_events_95 : decode cX10_events 95 = .ok (.iload 6, 2) := by decide +kernel
theorem dX10_events_97 : decode cX10_events 97 = .ok (.ifCond .ne 20, 3) := by decide +kernel
theorem dX10_events_100 : decode cX10_events 100 = .ok (.iload_n 1, 1) := by decide +kernel
theorem dX10_events_101 : decode cX10_events 101 = .ok (.iconst 4, 1) := by decide +kernel
theorem dX10_events_102 : decode cX10_events 102 = .ok (.if_icmp .ne 19, 3) := by decide +kernel
theorem dX10_events_105 : decode cX10_events 105 = .ok (.aload_n 0, 1) := by decide +kernel
theorem dX10_events_106 : decode cX10_events 106 = .ok (.iload_n 3, 1) := by decide +kernel
theorem dX10_events_107 : decode cX10_events 107 = .ok (.iload 4, 2) := by decide +kernel
theorem dX10_events_109 : decode cX10_events 109 = .ok (.iload 5, 2) := by decide +kernel
theorem dX10_events_111 : decode cX10_events 111 = .ok (.invokevirtual 126, 3) := by decide +kernel
theorem dX10_events_114 : decode cX10_events 114 = .ok (.ifCond .eq 7, 3) := by decide +kernel
theorem dX10_events_117 : decode cX10_events 117 = .ok (.iconst 1, 1) := by decide +kernel
theorem dX10_events_118 : decode cX10_events 118 = .ok (.goto 4, 3) := by decide +kernel
theorem dX10_events_121 : decode cX10_events 121 = .ok (.iconst 0, 1) := by decide +kernel
theorem dX10_events_122 : decode cX10_events 122 = .ok (.iadd, 1) := by decide +kernel
theorem dX10_events_123 : decode cX10_events 123 = .ok (.istore_n 2, 1) := by decide +kernel
theorem dX10_events_124 : decode cX10_events 124 = .ok (.iinc 5 1, 3) := by decide +kernel
theorem dX10_events_127 : decode cX10_events 127 = .ok (.goto (-101), 3) := by decide +kernel
theorem dX10_events_130 : decode cX10_events 130 = .ok (.iinc 4 1, 3) := by decide +kernel
theorem dX10_events_133 : decode cX10_events 133 = .ok (.goto (-116), 3) := by decide +kernel
theorem dX10_events_136 : decode cX10_events 136 = .ok (.iinc 3 1, 3) := by decide +kernel
theorem dX10_events_139 : decode cX10_events 139 = .ok (.goto (-135), 3) := by decide +kernel
theorem dX10_events_142 : decode cX10_events 142 = .ok (.iload_n 2, 1) := by decide +kernel
theorem dX10_events_143 : decode cX10_events 143 = .ok (.ireturn, 1) := by decide +kernel
theorem dX10_uneven_0 : decode cX10_uneven 0 = .ok (.iconst 0, 1) := by decide +kernel
theorem dX10_uneven_1 : decode cX10_uneven 1 = .ok (.istore_n 1, 1) := by decide +kernel
theorem dX10_uneven_2 : decode cX10_uneven 2 = .ok (.iconst 0, 1) := by decide +kernel
theorem dX10_uneven_3 : decode cX10_uneven 3 = .ok (.istore_n 2, 1) := by decide +kernel
theorem dX10_uneven_4 : decode cX10_uneven 4 = .ok (.iload_n 2, 1) := by decide +kernel
theorem dX10_uneven_5 : decode cX10_uneven 5 = .ok (.iconst 2, 1) := by decide +kernel
theorem dX10_uneven_6 : decode cX10_uneven 6 = .ok (.aload_n 0, 1) := by decide +kernel
theorem dX10_uneven_7 : decode cX10_uneven 7 = .ok (.getfield 7, 3) := by decide +kernel
theorem dX10_uneven_10 : decode cX10_uneven 10 = .ok (.iconst 0, 1) := by decide +kernel
theorem dX10_uneven_11 : decode cX10_uneven 11 = .ok (.iaload, 1) := by decide +kernel
theorem dX10_uneven_12 : decode cX10_uneven 12 = .ok (.imul, 1) := by decide +kernel
theorem dX10_uneven_13 : decode cX10_uneven 13 = .ok (.if_icmp .ge 56, 3) := by decide +kernel
theorem dX10_uneven_16 : decode cX10_uneven 16 = .ok (.aload_n 0, 1) := by decide +kernel
theorem dX10_uneven_17 : decode cX10_uneven 17 = .ok (.iload_n 2, 1) := by decide +kernel
theorem dX10_uneven_18 : decode cX10_uneven 18 = .ok (.iconst 2, 1) := by decide +kernel
theorem dX10_uneven_19 : decode cX10_uneven 19 = .ok (.idiv, 1) := by decide +kernel
theorem dX10_uneven_20 : decode cX10_uneven 20 = .ok (.bipush 7, 2) := by decide +kernel
theorem dX10_uneven_22 : decode cX10_uneven 22 = .ok (.iload_n 2, 1) := by decide +kernel
theorem dX10_uneven_23 : decode cX10_uneven 23 = .ok (.iconst 2, 1) := by decide +kernel
theorem dX10_uneven_24 : decode cX10_uneven 24 = .ok (.irem, 1) := by decide +kernel
theorem dX10_uneven_25 : decode cX10_uneven 25 = .ok (.iadd, 1) := by decide +kernel
theorem dX10_uneven_26 : decode cX10_uneven 26 = .ok (.invokevirtual 53, 3) := by decide +kernel
theorem dX10_uneven_29 : decode cX10_uneven 29 = .ok (.istore_n 3, 1) := by decide +kernel
theorem dX10_uneven_30 : decode cX10_uneven 30 = .ok (.iload_n 1, 1) := by decide +kernel
theorem dX10_uneven_31 : decode cX10_uneven 31 = .ok (.iload_n 3, 1) := by decide +kernel
theorem dX10_uneven_32 : decode cX10_uneven 32 = .ok (.ifCond .le 28, 3) := by decide +kernel
theorem dX10_uneven_35 : decode cX10_uneven 35 = .ok (.aload_n 0, 1) := by decide +kernel
theorem dX10_uneven_36 : decode cX10_uneven 36 = .ok (.iload_n 2, 1) := by decide +kernel
theorem dX10_uneven_37 : decode cX10_uneven 37 = .ok (.iconst 2, 1) := by decide +kernel
theorem dX10_uneven_38 : decode cX10_uneven 38 = .ok (.idiv, 1) := by decide +kernel
theorem dX10_uneven_39 : decode cX10_uneven 39 = .ok (.iload_n 2, 1) := by decide +kernel
theorem dX10_uneven_40 : decode cX10_uneven 40 = .ok (.iconst 2, 1) := by decide +kernel
theorem dX10_uneven_41 : decode cX10_uneven 41 = .ok (.irem, 1) := by decide +kernel
theorem dX10_uneven_42 : decode cX10_uneven 42 = .ok (.iload_n 3, 1) := by decide +kernel
theorem dX10_uneven_43 : decode cX10_uneven 43 = .ok (.invokevirtual 111, 3) := by decide +kernel
theorem dX10_uneven_46 : decode cX10_uneven 46 = .ok (.aload_n 0, 1) := by decide +kernel
theorem dX10_uneven_47 : decode cX10_uneven 47 = .ok (.iload_n 2, 1) := by decide +kernel
theorem dX10_uneven_48 : decode cX10_uneven 48 = .ok (.iconst 2, 1) := by decide +kernel
theorem dX10_uneven_49 : decode cX10_uneven 49 = .ok (.idiv, 1) := by decide +kernel
theorem dX10_uneven_50 : decode cX10_uneven 50 = .ok (.invokevirtual 108, 3) := by decide +kernel
theorem dX10_uneven_53 : decode cX10_uneven 53 = .ok (.if_icmp .eq 7, 3) := by decide +kernel
theorem dX10_uneven_56 : decode cX10_uneven 56 = .ok (.iconst 1, 1) := by decide +kernel
theorem dX10_uneven_57 : decode cX10_uneven 57 = .ok (.goto 4, 3) := by decide +kernel
theorem dX10_uneven_60 : decode cX10_uneven 60 = .ok (.iconst 0, 1) := by decide +kernel
theorem dX10_uneven_61 : decode cX10_uneven 61 = .ok (.iadd, 1) := by decide +kernel
theorem dX10_uneven_62 : decode cX10_uneven 62 = .ok (.istore_n 1, 1) := by decide +kernel
theorem dX10_uneven_63 : decode cX10_uneven 63 = .ok (.iinc 2 1, 3) := by decide +kernel
theorem dX10_uneven_66 : decode cX10_uneven 66 = .ok (.goto (-62), 3) := by decide +kernel
theorem dX10_uneven_69 : decode cX10_uneven 69 = .ok (.iload_n 1, 1) := by decide +kernel
theorem dX10_uneven_70 : decode cX10_uneven 70 = .ok (.ireturn, 1) := by decide +kernel
theorem dX10_wholeTold_0 : decode cX10_wholeTold 0 = .ok (.iload_n 1, 1) := by decide +kernel
theorem dX10_wholeTold_1 : decode cX10_wholeTold 1 = .ok (.tableswitch 82 0 8 #[51, 82, 82, 82, 82, 58, 63, 72, 77], 51) := by decide +kernel
theorem dX10_wholeTold_52 : decode cX10_wholeTold 52 = .ok (.aload_n 0, 1) := by decide +kernel
theorem dX10_wholeTold_53 : decode cX10_wholeTold 53 = .ok (.getfield 7, 3) := by decide +kernel
theorem dX10_wholeTold_56 : decode cX10_wholeTold 56 = .ok (.iconst 0, 1) := by decide +kernel
theorem dX10_wholeTold_57 : decode cX10_wholeTold 57 = .ok (.iaload, 1) := by decide +kernel
theorem dX10_wholeTold_58 : decode cX10_wholeTold 58 = .ok (.ireturn, 1) := by decide +kernel
theorem dX10_wholeTold_59 : decode cX10_wholeTold 59 = .ok (.aload_n 0, 1) := by decide +kernel
theorem dX10_wholeTold_60 : decode cX10_wholeTold 60 = .ok (.invokevirtual 139, 3) := by decide +kernel
theorem dX10_wholeTold_63 : decode cX10_wholeTold 63 = .ok (.ireturn, 1) := by decide +kernel
theorem dX10_wholeTold_64 : decode cX10_wholeTold 64 = .ok (.aload_n 0, 1) := by decide +kernel
theorem dX10_wholeTold_65 : decode cX10_wholeTold 65 = .ok (.invokevirtual 143, 3) := by decide +kernel
theorem dX10_wholeTold_68 : decode cX10_wholeTold 68 = .ok (.aload_n 0, 1) := by decide +kernel
theorem dX10_wholeTold_69 : decode cX10_wholeTold 69 = .ok (.getfield 146, 3) := by decide +kernel
theorem dX10_wholeTold_72 : decode cX10_wholeTold 72 = .ok (.ireturn, 1) := by decide +kernel
theorem dX10_wholeTold_73 : decode cX10_wholeTold 73 = .ok (.aload_n 0, 1) := by decide +kernel
theorem dX10_wholeTold_74 : decode cX10_wholeTold 74 = .ok (.invokevirtual 149, 3) := by decide +kernel
theorem dX10_wholeTold_77 : decode cX10_wholeTold 77 = .ok (.ireturn, 1) := by decide +kernel
theorem dX10_wholeTold_78 : decode cX10_wholeTold 78 = .ok (.aload_n 0, 1) := by decide +kernel
theorem dX10_wholeTold_79 : decode cX10_wholeTold 79 = .ok (.getfield 152, 3) := by decide +kernel
theorem dX10_wholeTold_82 : decode cX10_wholeTold 82 = .ok (.ireturn, 1) := by decide +kernel
theorem dX10_wholeTold_83 : decode cX10_wholeTold 83 = .ok (.aload_n 0, 1) := by decide +kernel
theorem dX10_wholeTold_84 : decode cX10_wholeTold 84 = .ok (.iload_n 1, 1) := by decide +kernel
theorem dX10_wholeTold_85 : decode cX10_wholeTold 85 = .ok (.invokevirtual 155, 3) := by decide +kernel
theorem dX10_wholeTold_88 : decode cX10_wholeTold 88 = .ok (.ireturn, 1) := by decide +kernel
theorem dX10_whole_0 : decode cX10_whole 0 = .ok (.aload_n 0, 1) := by decide +kernel
theorem dX10_whole_1 : decode cX10_whole 1 = .ok (.iload_n 1, 1) := by decide +kernel
theorem dX10_whole_2 : decode cX10_whole 2 = .ok (.iconst 0, 1) := by decide +kernel
theorem dX10_whole_3 : decode cX10_whole 3 = .ok (.bipush 8, 2) := by decide +kernel
theorem dX10_whole_5 : decode cX10_whole 5 = .ok (.invokestatic 42, 3) := by decide +kernel
theorem dX10_whole_8 : decode cX10_whole 8 = .ok (.ifCond .eq 7, 3) := by decide +kernel
theorem dX10_whole_11 : decode cX10_whole 11 = .ok (.iconst 0, 1) := by decide +kernel
theorem dX10_whole_12 : decode cX10_whole 12 = .ok (.goto 4, 3) := by decide +kernel
theorem dX10_whole_15 : decode cX10_whole 15 = .ok (.iconst 1, 1) := by decide +kernel
theorem dX10_whole_16 : decode cX10_whole 16 = .ok (.invokevirtual 38, 3) := by decide +kernel
theorem dX10_whole_19 : decode cX10_whole 19 = .ok (.ifCond .eq 7, 3) := by decide +kernel
theorem dX10_whole_22 : decode cX10_whole 22 = .ok (.iconst 0, 1) := by decide +kernel
theorem dX10_whole_23 : decode cX10_whole 23 = .ok (.goto 8, 3) := by decide +kernel
theorem dX10_whole_26 : decode cX10_whole 26 = .ok (.aload_n 0, 1) := by decide +kernel
theorem dX10_whole_27 : decode cX10_whole 27 = .ok (.iload_n 1, 1) := by decide +kernel
theorem dX10_whole_28 : decode cX10_whole 28 = .ok (.invokevirtual 158, 3) := by decide +kernel
theorem dX10_whole_31 : decode cX10_whole 31 = .ok (.ireturn, 1) := by decide +kernel
theorem dX10_finds_0 : decode cX10_finds 0 = .ok (.iconst 0, 1) := by decide +kernel
theorem dX10_finds_1 : decode cX10_finds 1 = .ok (.istore_n 1, 1) := by decide +kernel
theorem dX10_finds_2 : decode cX10_finds 2 = .ok (.iconst 1, 1) := by decide +kernel
theorem dX10_finds_3 : decode cX10_finds 3 = .ok (.istore_n 2, 1) := by decide +kernel
theorem dX10_finds_4 : decode cX10_finds 4 = .ok (.iconst 0, 1) := by decide +kernel
theorem dX10_finds_5 : decode cX10_finds 5 = .ok (.istore_n 3, 1) := by decide +kernel
theorem dX10_finds_6 : decode cX10_finds 6 = .ok (.iconst 1, 1) := by decide +kernel
theorem dX10_finds_7 : decode cX10_finds 7 = .ok (.istore 4, 2) := by decide +kernel
theorem dX10_finds_9 : decode cX10_finds 9 = .ok (.aload_n 0, 1) := by decide +kernel
theorem dX10_finds_10 : decode cX10_finds 10 = .ok (.iconst 0, 1) := by decide +kernel
theorem dX10_finds_11 : decode cX10_finds 11 = .ok (.putfield 146, 3) := by decide +kernel
theorem dX10_finds_14 : decode cX10_finds 14 = .ok (.iload_n 3, 1) := by decide +kernel
theorem dX10_finds_15 : decode cX10_finds 15 = .ok (.aload_n 0, 1) := by decide +kernel
theorem dX10_finds_16 : decode cX10_finds 16 = .ok (.getfield 7, 3) := by decide +kernel
theorem dX10_finds_19 : decode cX10_finds 19 = .ok (.iconst 0, 1) := by decide +kernel
theorem dX10_finds_20 : decode cX10_finds 20 = .ok (.iaload, 1) := by decide +kernel
theorem dX10_finds_21 : decode cX10_finds 21 = .ok (.if_icmp .ge 190, 3) := by decide +kernel
theorem dX10_finds_24 : decode cX10_finds 24 = .ok (.aload_n 0, 1) := by decide +kernel
theorem dX10_finds_25 : decode cX10_finds 25 = .ok (.getfield 146, 3) := by decide +kernel
theorem dX10_finds_28 : decode cX10_finds 28 = .ok (.sipush 200, 3) := by decide +kernel
theorem dX10_finds_31 : decode cX10_finds 31 = .ok (.if_icmp .ge 180, 3) := by decide +kernel
theorem dX10_finds_34 : decode cX10_finds 34 = .ok (.aload_n 0, 1) := by decide +kernel
theorem dX10_finds_35 : decode cX10_finds 35 = .ok (.iload_n 3, 1) := by decide +kernel
theorem dX10_finds_36 : decode cX10_finds 36 = .ok (.bipush 6, 2) := by decide +kernel
theorem dX10_finds_38 : decode cX10_finds 38 = .ok (.invokevirtual 53, 3) := by decide +kernel
theorem dX10_finds_41 : decode cX10_finds 41 = .ok (.istore 5, 2) := by decide +kernel
theorem dX10_finds_43 : decode cX10_finds 43 = .ok (.iload 5, 2) := by decide +kernel
theorem dX10_finds_45 : decode cX10_finds 45 = .ok (.ifCond .ne 23, 3) := by decide +kernel
theorem dX10_finds_48 : decode cX10_finds 48 = .ok (.iload_n 3, 1) := by decide +kernel
theorem dX10_finds_49 : decode cX10_finds 49 = .ok (.ifCond .le 19, 3) := by decide +kernel
theorem dX10_finds_52 : decode cX10_finds 52 = .ok (.aload_n 0, 1) := by decide +kernel
theorem dX10_finds_53 : decode cX10_finds 53 = .ok (.iload_n 3, 1) := by decide +kernel
theorem dX10_finds_54 : decode cX10_finds 54 = .ok (.iconst 1, 1) := by decide +kernel
theorem dX10_finds_55 : decode cX10_finds 55 = .ok (.isub, 1) := by decide +kernel
theorem dX10_finds_56 : decode cX10_finds 56 = .ok (.bipush 6, 2) := by decide +kernel
theorem dX10_finds_58 : decode cX10_finds 58 = .ok (.invokevirtual 53, 3) := by decide +kernel
theorem dX10_finds_61 : decode cX10_finds 61 = .ok (.ifCond .le 7, 3) := by decide +kernel
theorem dX10_finds_64 : decode cX10_finds 64 = .ok (.iconst 1, 1) := by decide +kernel
theorem dX10_finds_65 : decode cX10_finds 65 = .ok (.goto 4, 3) := by decide +kernel
theorem dX10_finds_68 : decode cX10_finds 68 = .ok (.iconst 0, 1) := by decide +kernel
theorem dX10_finds_69 : decode cX10_finds 69 = .ok (.istore 6, 2) := by decide +kernel
theorem dX10_finds_71 : decode cX10_finds 71 = .ok (.iload 4, 2) := by decide +kernel
theorem dX10_finds_73 : decode cX10_finds 73 = .ok (.ifCond .eq 22, 3) := by decide +kernel
theorem dX10_finds_76 : decode cX10_finds 76 = .ok (.aload_n 0, 1) := by decide +kernel
theorem dX10_finds_77 : decode cX10_finds 77 = .ok (.iload_n 3, 1) := by decide +kernel
theorem dX10_finds_78 : decode cX10_finds 78 = .ok (.iconst 4, 1) := by decide +kernel
theorem dX10_finds_79 : decode cX10_finds 79 = .ok (.invokevirtual 53, 3) := by decide +kernel
theorem dX10_finds_82 : decode cX10_finds 82 = .ok (.iconst 1, 1) := by decide +kernel
theorem dX10_finds_83 : decode cX10_finds 83 = .ok (.if_icmp .eq 8, 3) := by decide +kernel
theorem dX10_finds_86 : decode cX10_finds 86 = .ok (.iload 6, 2) := by decide +kernel
theorem dX10_finds_88 : decode cX10_finds 88 = .ok (.ifCond .eq 7, 3) := by decide +kernel
theorem dX10_finds_91 : decode cX10_finds 91 = .ok (.iload_n 3, 1) := by decide +kernel
theorem dX10_finds_92 : decode cX10_finds 92 = .ok (.istore_n 1, 1) := by decide +kernel
theorem dX10_finds_93 : decode cX10_finds 93 = .ok (.iconst 1, 1) := by decide +kernel
theorem dX10_finds_94 : decode cX10_finds 94 = .ok (.istore_n 2, 1) := by decide +kernel
theorem dX10_finds_95 : decode cX10_finds 95 = .ok (.iload 5, 2) := by decide +kernel
theorem dX10_finds_97 : decode cX10_finds 97 = .ok (.ifCond .eq 9, 3) := by decide +kernel
theorem dX10_finds_100 : decode cX10_finds 100 = .ok (.iload 5, 2) := by decide +kernel
theorem dX10_finds_102 : decode cX10_finds 102 = .ok (.iload_n 2, 1) := by decide +kernel
theorem dX10_finds_103 : decode cX10_finds 103 = .ok (.if_icmp .ne 7, 3) := by decide +kernel
theorem dX10_finds_106 : decode cX10_finds 106 = .ok (.iconst 1, 1) := by decide +kernel
theorem dX10_finds_107 : decode cX10_finds 107 = .ok (.goto 4, 3) := by decide +kernel
theorem dX10_finds_110 : decode cX10_finds 110 = .ok (.iconst 0, 1) := by decide +kernel
theorem dX10_finds_111 : decode cX10_finds 111 = .ok (.istore 7, 2) := by decide +kernel
theorem dX10_finds_113 : decode cX10_finds 113 = .ok (.iload 7, 2) := by decide +kernel
theorem dX10_finds_115 : decode cX10_finds 115 = .ok (.ifCond .eq 23, 3) := by decide +kernel
theorem dX10_finds_118 : decode cX10_finds 118 = .ok (.aload_n 0, 1) := by decide +kernel
theorem dX10_finds_119 : decode cX10_finds 119 = .ok (.getfield 19, 3) := by decide +kernel
theorem dX10_finds_122 : decode cX10_finds 122 = .ok (.aload_n 0, 1) := by decide +kernel
theorem dX10_finds_123 : decode cX10_finds 123 = .ok (.getfield 146, 3) := by decide +kernel
theorem dX10_finds_126 : decode cX10_finds 126 = .ok (.iload_n 3, 1) := by decide +kernel
theorem dX10_finds_127 : decode cX10_finds 127 = .ok (.iastore, 1) := by decide +kernel
theorem dX10_finds_128 : decode cX10_finds 128 = .ok (.aload_n 0, 1) := by decide +kernel
theorem dX10_finds_129 : decode cX10_finds 129 = .ok (.dup, 1) := by decide +kernel
theorem dX10_finds_130 : decode cX10_finds 130 = .ok (.getfield 146, 3) := by decide +kernel
theorem dX10_finds_133 : decode cX10_finds 133 = .ok (.iconst 1, 1) := by decide +kernel
theorem dX10_finds_134 : decode cX10_finds 134 = .ok (.iadd, 1) := by decide +kernel
theorem dX10_finds_135 : decode cX10_finds 135 = .ok (.putfield 146, 3) := by decide +kernel
theorem dX10_finds_138 : decode cX10_finds 138 = .ok (.iload 7, 2) := by decide +kernel
theorem dX10_finds_140 : decode cX10_finds 140 = .ok (.ifCond .eq 12, 3) := by decide +kernel
theorem dX10_finds_143 : decode cX10_finds 143 = .ok (.aload_n 0, 1) := by decide +kernel
theorem dX10_finds_144 : decode cX10_finds 144 = .ok (.iload_n 3, 1) := by decide +kernel
theorem dX10_finds_145 : decode cX10_finds 145 = .ok (.iconst 5, 1) := by decide +kernel
theorem dX10_finds_146 : decode cX10_finds 146 = .ok (.invokevirtual 53, 3) := by decide +kernel
theorem dX10_finds_149 : decode cX10_finds 149 = .ok (.goto 4, 3) := by decide +kernel
theorem dX10_finds_152 : decode cX10_finds 152 = .ok (.iconst 0, 1) := by decide +kernel
theorem dX10_finds_153 : decode cX10_finds 153 = .ok (.istore 8, 2) := by decide +kernel
theorem dX10_finds_155 : decode cX10_finds 155 = .ok (.iload 8, 2) := by decide +kernel
theorem dX10_finds_157 : decode cX10_finds 157 = .ok (.iload_n 2, 1) := by decide +kernel
theorem dX10_finds_158 : decode cX10_finds 158 = .ok (.if_icmp .gt 7, 3) := by decide +kernel
theorem dX10_finds_161 : decode cX10_finds 161 = .ok (.iconst 1, 1) := by decide +kernel
theorem dX10_finds_162 : decode cX10_finds 162 = .ok (.goto 4, 3) := by decide +kernel
theorem dX10_finds_165 : decode cX10_finds 165 = .ok (.iconst 0, 1) := by decide +kernel
theorem dX10_finds_166 : decode cX10_finds 166 = .ok (.istore 4, 2) := by decide +kernel
theorem dX10_finds_168 : decode cX10_finds 168 = .ok (.iload 4, 2) := by decide +kernel
theorem dX10_finds_170 : decode cX10_finds 170 = .ok (.ifCond .eq 33, 3) := by decide +kernel
theorem dX10_finds_173 : decode cX10_finds 173 = .ok (.iload 8, 2) := by decide +kernel
theorem dX10_finds_175 : decode cX10_finds 175 = .ok (.ifCond .le 9, 3) := by decide +kernel
theorem dX10_finds_178 : decode cX10_finds 178 = .ok (.iload_n 3, 1) := by decide +kernel
theorem dX10_finds_179 : decode cX10_finds 179 = .ok (.iconst 1, 1) := by decide +kernel
theorem dX10_finds_180 : decode cX10_finds 180 = .ok (.iadd, 1) := by decide +kernel
theorem dX10_finds_181 : decode cX10_finds 181 = .ok (.goto 4, 3) := by decide +kernel
theorem dX10_finds_184 : decode cX10_finds 184 = .ok (.iload_n 1, 1) := by decide +kernel
theorem dX10_finds_185 : decode cX10_finds 185 = .ok (.istore_n 1, 1) := by decide +kernel
theorem dX10_finds_186 : decode cX10_finds 186 = .ok (.iload 8, 2) := by decide +kernel
theorem dX10_finds_188 : decode cX10_finds 188 = .ok (.ifCond .le 7, 3) := by decide +kernel
theorem dX10_finds_191 : decode cX10_finds 191 = .ok (.iconst 1, 1) := by decide +kernel
theorem dX10_finds_192 : decode cX10_finds 192 = .ok (.goto 4, 3) := by decide +kernel
theorem dX10_finds_195 : decode cX10_finds 195 = .ok (.iload_n 2, 1) := by decide +kernel
theorem dX10_finds_196 : decode cX10_finds 196 = .ok (.istore_n 2, 1) := by decide +kernel
theorem dX10_finds_197 : decode cX10_finds 197 = .ok (.iinc 3 1, 3) := by decide +kernel
theorem dX10_finds_200 : decode cX10_finds 200 = .ok (.goto 8, 3) := by decide +kernel
theorem dX10_finds_203 : decode cX10_finds 203 = .ok (.iinc 2 1, 3) := by decide +kernel
theorem dX10_finds_206 : decode cX10_finds 206 = .ok (.iload_n 1, 1) := by decide +kernel
theorem dX10_finds_207 : decode cX10_finds 207 = .ok (.istore_n 3, 1) := by decide +kernel
theorem dX10_finds_208 : decode cX10_finds 208 = .ok (.goto (-194), 3) := by decide +kernel
theorem dX10_finds_211 : decode cX10_finds 211 = .ok (.return_, 1) := by decide +kernel
theorem dX10_playedTicks_0 : decode cX10_playedTicks 0 = .ok (.aload_n 0, 1) := by decide +kernel
theorem dX10_playedTicks_1 : decode cX10_playedTicks 1 = .ok (.invokevirtual 143, 3) := by decide +kernel
theorem dX10_playedTicks_4 : decode cX10_playedTicks 4 = .ok (.iconst 0, 1) := by decide +kernel
theorem dX10_playedTicks_5 : decode cX10_playedTicks 5 = .ok (.istore_n 1, 1) := by decide +kernel
theorem dX10_playedTicks_6 : decode cX10_playedTicks 6 = .ok (.iconst 0, 1) := by decide +kernel
theorem dX10_playedTicks_7 : decode cX10_playedTicks 7 = .ok (.istore_n 2, 1) := by decide +kernel
theorem dX10_playedTicks_8 : decode cX10_playedTicks 8 = .ok (.iload_n 2, 1) := by decide +kernel
theorem dX10_playedTicks_9 : decode cX10_playedTicks 9 = .ok (.aload_n 0, 1) := by decide +kernel
theorem dX10_playedTicks_10 : decode cX10_playedTicks 10 = .ok (.getfield 146, 3) := by decide +kernel
theorem dX10_playedTicks_13 : decode cX10_playedTicks 13 = .ok (.if_icmp .ge 22, 3) := by decide +kernel
theorem dX10_playedTicks_16 : decode cX10_playedTicks 16 = .ok (.iload_n 1, 1) := by decide +kernel
theorem dX10_playedTicks_17 : decode cX10_playedTicks 17 = .ok (.aload_n 0, 1) := by decide +kernel
theorem dX10_playedTicks_18 : decode cX10_playedTicks 18 = .ok (.aload_n 0, 1) := by decide +kernel
theorem dX10_playedTicks_19 : decode cX10_playedTicks 19 = .ok (.getfield 19, 3) := by decide +kernel
theorem dX10_playedTicks_22 : decode cX10_playedTicks 22 = .ok (.iload_n 2, 1) := by decide +kernel
theorem dX10_playedTicks_23 : decode cX10_playedTicks 23 = .ok (.iaload, 1) := by decide +kernel
theorem dX10_playedTicks_24 : decode cX10_playedTicks 24 = .ok (.invokevirtual 108, 3) := by decide +kernel
theorem dX10_playedTicks_27 : decode cX10_playedTicks 27 = .ok (.iadd, 1) := by decide +kernel
theorem dX10_playedTicks_28 : decode cX10_playedTicks 28 = .ok (.istore_n 1, 1) := by decide +kernel
theorem dX10_playedTicks_29 : decode cX10_playedTicks 29 = .ok (.iinc 2 1, 3) := by decide +kernel
theorem dX10_playedTicks_32 : decode cX10_playedTicks 32 = .ok (.goto (-24), 3) := by decide +kernel
theorem dX10_playedTicks_35 : decode cX10_playedTicks 35 = .ok (.iload_n 1, 1) := by decide +kernel
theorem dX10_playedTicks_36 : decode cX10_playedTicks 36 = .ok (.ireturn, 1) := by decide +kernel
theorem dX10_order_0 : decode cX10_order 0 = .ok (.aload_n 0, 1) := by decide +kernel
theorem dX10_order_1 : decode cX10_order 1 = .ok (.iload_n 1, 1) := by decide +kernel
theorem dX10_order_2 : decode cX10_order 2 = .ok (.ifCond .ge 7, 3) := by decide +kernel
theorem dX10_order_5 : decode cX10_order 5 = .ok (.iconst 1, 1) := by decide +kernel
theorem dX10_order_6 : decode cX10_order 6 = .ok (.goto 4, 3) := by decide +kernel
theorem dX10_order_9 : decode cX10_order 9 = .ok (.iconst 0, 1) := by decide +kernel
theorem dX10_order_10 : decode cX10_order 10 = .ok (.invokevirtual 38, 3) := by decide +kernel
theorem dX10_order_13 : decode cX10_order 13 = .ok (.ifCond .eq 5, 3) := by decide +kernel
theorem dX10_order_16 : decode cX10_order 16 = .ok (.iconst 0, 1) := by decide +kernel
theorem dX10_order_17 : decode cX10_order 17 = .ok (.ireturn, 1) := by decide +kernel
theorem dX10_order_18 : decode cX10_order 18 = .ok (.aload_n 0, 1) := by decide +kernel
theorem dX10_order_19 : decode cX10_order 19 = .ok (.invokevirtual 143, 3) := by decide +kernel
theorem dX10_order_22 : decode cX10_order 22 = .ok (.iload_n 1, 1) := by decide +kernel
theorem dX10_order_23 : decode cX10_order 23 = .ok (.aload_n 0, 1) := by decide +kernel
theorem dX10_order_24 : decode cX10_order 24 = .ok (.getfield 146, 3) := by decide +kernel
theorem dX10_order_27 : decode cX10_order 27 = .ok (.if_icmp .ge 12, 3) := by decide +kernel
theorem dX10_order_30 : decode cX10_order 30 = .ok (.aload_n 0, 1) := by decide +kernel
theorem dX10_order_31 : decode cX10_order 31 = .ok (.getfield 19, 3) := by decide +kernel
theorem dX10_order_34 : decode cX10_order 34 = .ok (.iload_n 1, 1) := by decide +kernel
theorem dX10_order_35 : decode cX10_order 35 = .ok (.iaload, 1) := by decide +kernel
theorem dX10_order_36 : decode cX10_order 36 = .ok (.goto 6, 3) := by decide +kernel
theorem dX10_order_39 : decode cX10_order 39 = .ok (.sipush (-1000), 3) := by decide +kernel
theorem dX10_order_42 : decode cX10_order 42 = .ok (.ireturn, 1) := by decide +kernel
theorem dX10_plays_0 : decode cX10_plays 0 = .ok (.aload_n 0, 1) := by decide +kernel
theorem dX10_plays_1 : decode cX10_plays 1 = .ok (.invokevirtual 143, 3) := by decide +kernel
theorem dX10_plays_4 : decode cX10_plays 4 = .ok (.iconst 0, 1) := by decide +kernel
theorem dX10_plays_5 : decode cX10_plays 5 = .ok (.istore_n 2, 1) := by decide +kernel
theorem dX10_plays_6 : decode cX10_plays 6 = .ok (.iconst 0, 1) := by decide +kernel
theorem dX10_plays_7 : decode cX10_plays 7 = .ok (.istore_n 3, 1) := by decide +kernel
theorem dX10_plays_8 : decode cX10_plays 8 = .ok (.iload_n 3, 1) := by decide +kernel
theorem dX10_plays_9 : decode cX10_plays 9 = .ok (.aload_n 0, 1) := by decide +kernel
theorem dX10_plays_10 : decode cX10_plays 10 = .ok (.getfield 146, 3) := by decide +kernel
theorem dX10_plays_13 : decode cX10_plays 13 = .ok (.if_icmp .ge 27, 3) := by decide +kernel
theorem dX10_plays_16 : decode cX10_plays 16 = .ok (.iload_n 2, 1) := by decide +kernel
theorem dX10_plays_17 : decode cX10_plays 17 = .ok (.aload_n 0, 1) := by decide +kernel
theorem dX10_plays_18 : decode cX10_plays 18 = .ok (.getfield 19, 3) := by decide +kernel
theorem dX10_plays_21 : decode cX10_plays 21 = .ok (.iload_n 3, 1) := by decide +kernel
theorem dX10_plays_22 : decode cX10_plays 22 = .ok (.iaload, 1) := by decide +kernel
theorem dX10_plays_23 : decode cX10_plays 23 = .ok (.iload_n 1, 1) := by decide +kernel
theorem dX10_plays_24 : decode cX10_plays 24 = .ok (.if_icmp .ne 7, 3) := by decide +kernel
theorem dX10_plays_27 : decode cX10_plays 27 = .ok (.iconst 1, 1) := by decide +kernel
theorem dX10_plays_28 : decode cX10_plays 28 = .ok (.goto 4, 3) := by decide +kernel
theorem dX10_plays_31 : decode cX10_plays 31 = .ok (.iconst 0, 1) := by decide +kernel
theorem dX10_plays_32 : decode cX10_plays 32 = .ok (.iadd, 1) := by decide +kernel
theorem dX10_plays_33 : decode cX10_plays 33 = .ok (.istore_n 2, 1) := by decide +kernel
theorem dX10_plays_34 : decode cX10_plays 34 = .ok (.iinc 3 1, 3) := by decide +kernel
theorem dX10_plays_37 : decode cX10_plays 37 = .ok (.goto (-29), 3) := by decide +kernel
theorem dX10_plays_40 : decode cX10_plays 40 = .ok (.iload_n 2, 1) := by decide +kernel
theorem dX10_plays_41 : decode cX10_plays 41 = .ok (.ireturn, 1) := by decide +kernel
theorem dX10_timesPlayed_0 : decode cX10_timesPlayed 0 = .ok (.aload_n 0, 1) := by decide +kernel
theorem dX10_timesPlayed_1 : decode cX10_timesPlayed 1 = .ok (.aload_n 0, 1) := by decide +kernel
theorem dX10_timesPlayed_2 : decode cX10_timesPlayed 2 = .ok (.iload_n 1, 1) := by decide +kernel
theorem dX10_timesPlayed_3 : decode cX10_timesPlayed 3 = .ok (.invokevirtual 46, 3) := by decide +kernel
theorem dX10_timesPlayed_6 : decode cX10_timesPlayed 6 = .ok (.ifCond .eq 7, 3) := by decide +kernel
theorem dX10_timesPlayed_9 : decode cX10_timesPlayed 9 = .ok (.iconst 0, 1) := by decide +kernel
theorem dX10_timesPlayed_10 : decode cX10_timesPlayed 10 = .ok (.goto 4, 3) := by decide +kernel
theorem dX10_timesPlayed_13 : decode cX10_timesPlayed 13 = .ok (.iconst 1, 1) := by decide +kernel
theorem dX10_timesPlayed_14 : decode cX10_timesPlayed 14 = .ok (.invokevirtual 38, 3) := by decide +kernel
theorem dX10_timesPlayed_17 : decode cX10_timesPlayed 17 = .ok (.ifCond .eq 7, 3) := by decide +kernel
theorem dX10_timesPlayed_20 : decode cX10_timesPlayed 20 = .ok (.iconst 0, 1) := by decide +kernel
theorem dX10_timesPlayed_21 : decode cX10_timesPlayed 21 = .ok (.goto 8, 3) := by decide +kernel
theorem dX10_timesPlayed_24 : decode cX10_timesPlayed 24 = .ok (.aload_n 0, 1) := by decide +kernel
theorem dX10_timesPlayed_25 : decode cX10_timesPlayed 25 = .ok (.iload_n 1, 1) := by decide +kernel
theorem dX10_timesPlayed_26 : decode cX10_timesPlayed 26 = .ok (.invokevirtual 161, 3) := by decide +kernel
theorem dX10_timesPlayed_29 : decode cX10_timesPlayed 29 = .ok (.ireturn, 1) := by decide +kernel
theorem dX10_secondsOf_0 : decode cX10_secondsOf 0 = .ok (.aload_n 0, 1) := by decide +kernel
theorem dX10_secondsOf_1 : decode cX10_secondsOf 1 = .ok (.iload_n 1, 1) := by decide +kernel
theorem dX10_secondsOf_2 : decode cX10_secondsOf 2 = .ok (.invokevirtual 108, 3) := by decide +kernel
theorem dX10_secondsOf_5 : decode cX10_secondsOf 5 = .ok (.i2f, 1) := by decide +kernel
theorem dX10_secondsOf_6 : decode cX10_secondsOf 6 = .ok (.ldc 164, 2) := by decide +kernel
theorem dX10_secondsOf_8 : decode cX10_secondsOf 8 = .ok (.ldc 165, 2) := by decide +kernel
theorem dX10_secondsOf_10 : decode cX10_secondsOf 10 = .ok (.aload_n 0, 1) := by decide +kernel
theorem dX10_secondsOf_11 : decode cX10_secondsOf 11 = .ok (.iload_n 1, 1) := by decide +kernel
theorem dX10_secondsOf_12 : decode cX10_secondsOf 12 = .ok (.iconst 3, 1) := by decide +kernel
theorem dX10_secondsOf_13 : decode cX10_secondsOf 13 = .ok (.invokevirtual 53, 3) := by decide +kernel
theorem dX10_secondsOf_16 : decode cX10_secondsOf 16 = .ok (.i2f, 1) := by decide +kernel
theorem dX10_secondsOf_17 : decode cX10_secondsOf 17 = .ok (.fmul, 1) := by decide +kernel
theorem dX10_secondsOf_18 : decode cX10_secondsOf 18 = .ok (.fdiv, 1) := by decide +kernel
theorem dX10_secondsOf_19 : decode cX10_secondsOf 19 = .ok (.fmul, 1) := by decide +kernel
theorem dX10_secondsOf_20 : decode cX10_secondsOf 20 = .ok (.freturn, 1) := by decide +kernel
theorem dX10_seconds_0 : decode cX10_seconds 0 = .ok (.aload_n 0, 1) := by decide +kernel
theorem dX10_seconds_1 : decode cX10_seconds 1 = .ok (.iload_n 1, 1) := by decide +kernel
theorem dX10_seconds_2 : decode cX10_seconds 2 = .ok (.ifCond .ge 7, 3) := by decide +kernel
theorem dX10_seconds_5 : decode cX10_seconds 5 = .ok (.iconst 1, 1) := by decide +kernel
theorem dX10_seconds_6 : decode cX10_seconds 6 = .ok (.goto 4, 3) := by decide +kernel
theorem dX10_seconds_9 : decode cX10_seconds 9 = .ok (.iconst 0, 1) := by decide +kernel
theorem dX10_seconds_10 : decode cX10_seconds 10 = .ok (.invokevirtual 38, 3) := by decide +kernel
theorem dX10_seconds_13 : decode cX10_seconds 13 = .ok (.ifCond .eq 5, 3) := by decide +kernel
theorem dX10_seconds_16 : decode cX10_seconds 16 = .ok (.fconst 0, 1) := by decide +kernel
theorem dX10_seconds_17 : decode cX10_seconds 17 = .ok (.freturn, 1) := by decide +kernel
theorem dX10_seconds_18 : decode cX10_seconds 18 = .ok (.aload_n 0, 1) := by decide +kernel
theorem dX10_seconds_19 : decode cX10_seconds 19 = .ok (.invokevirtual 143, 3) := by decide +kernel
theorem dX10_seconds_22 : decode cX10_seconds 22 = .ok (.fconst 0, 1) := by decide +kernel
theorem dX10_seconds_23 : decode cX10_seconds 23 = .ok (.fstore_n 2, 1) := by decide +kernel
theorem dX10_seconds_24 : decode cX10_seconds 24 = .ok (.iconst 0, 1) := by decide +kernel
theorem dX10_seconds_25 : decode cX10_seconds 25 = .ok (.istore_n 3, 1) := by decide +kernel
theorem dX10_seconds_26 : decode cX10_seconds 26 = .ok (.iload_n 3, 1) := by decide +kernel
theorem dX10_seconds_27 : decode cX10_seconds 27 = .ok (.iload_n 1, 1) := by decide +kernel
theorem dX10_seconds_28 : decode cX10_seconds 28 = .ok (.if_icmp .ge 30, 3) := by decide +kernel
theorem dX10_seconds_31 : decode cX10_seconds 31 = .ok (.iload_n 3, 1) := by decide +kernel
theorem dX10_seconds_32 : decode cX10_seconds 32 = .ok (.aload_n 0, 1) := by decide +kernel
theorem dX10_seconds_33 : decode cX10_seconds 33 = .ok (.getfield 146, 3) := by decide +kernel
theorem dX10_seconds_36 : decode cX10_seconds 36 = .ok (.if_icmp .ge 22, 3) := by decide +kernel
theorem dX10_seconds_39 : decode cX10_seconds 39 = .ok (.fload_n 2, 1) := by decide +kernel
theorem dX10_seconds_40 : decode cX10_seconds 40 = .ok (.aload_n 0, 1) := by decide +kernel
theorem dX10_seconds_41 : decode cX10_seconds 41 = .ok (.aload_n 0, 1) := by decide +kernel
theorem dX10_seconds_42 : decode cX10_seconds 42 = .ok (.getfield 19, 3) := by decide +kernel
theorem dX10_seconds_45 : decode cX10_seconds 45 = .ok (.iload_n 3, 1) := by decide +kernel
theorem dX10_seconds_46 : decode cX10_seconds 46 = .ok (.iaload, 1) := by decide +kernel
theorem dX10_seconds_47 : decode cX10_seconds 47 = .ok (.invokevirtual 166, 3) := by decide +kernel
theorem dX10_seconds_50 : decode cX10_seconds 50 = .ok (.fadd, 1) := by decide +kernel
theorem dX10_seconds_51 : decode cX10_seconds 51 = .ok (.fstore_n 2, 1) := by decide +kernel
theorem dX10_seconds_52 : decode cX10_seconds 52 = .ok (.iinc 3 1, 3) := by decide +kernel
theorem dX10_seconds_55 : decode cX10_seconds 55 = .ok (.goto (-29), 3) := by decide +kernel
theorem dX10_seconds_58 : decode cX10_seconds 58 = .ok (.fload_n 2, 1) := by decide +kernel
theorem dX10_seconds_59 : decode cX10_seconds 59 = .ok (.freturn, 1) := by decide +kernel
theorem dX10_placeAt_0 : decode cX10_placeAt 0 = .ok (.aload_n 0, 1) := by decide +kernel
theorem dX10_placeAt_1 : decode cX10_placeAt 1 = .ok (.iload_n 1, 1) := by decide +kernel
theorem dX10_placeAt_2 : decode cX10_placeAt 2 = .ok (.ifCond .ge 7, 3) := by decide +kernel
theorem dX10_placeAt_5 : decode cX10_placeAt 5 = .ok (.iconst 1, 1) := by decide +kernel
theorem dX10_placeAt_6 : decode cX10_placeAt 6 = .ok (.goto 4, 3) := by decide +kernel
theorem dX10_placeAt_9 : decode cX10_placeAt 9 = .ok (.iconst 0, 1) := by decide +kernel
theorem dX10_placeAt_10 : decode cX10_placeAt 10 = .ok (.invokevirtual 38, 3) := by decide +kernel
theorem dX10_placeAt_13 : decode cX10_placeAt 13 = .ok (.ifCond .eq 5, 3) := by decide +kernel
theorem dX10_placeAt_16 : decode cX10_placeAt 16 = .ok (.iconst 0, 1) := by decide +kernel
theorem dX10_placeAt_17 : decode cX10_placeAt 17 = .ok (.ireturn, 1) := by decide +kernel
theorem dX10_placeAt_18 : decode cX10_placeAt 18 = .ok (.aload_n 0, 1) := by decide +kernel
theorem dX10_placeAt_19 : decode cX10_placeAt 19 = .ok (.invokevirtual 143, 3) := by decide +kernel
theorem dX10_placeAt_22 : decode cX10_placeAt 22 = .ok (.iload_n 1, 1) := by decide +kernel
theorem dX10_placeAt_23 : decode cX10_placeAt 23 = .ok (.i2f, 1) := by decide +kernel
theorem dX10_placeAt_24 : decode cX10_placeAt 24 = .ok (.fstore_n 2, 1) := by decide +kernel
theorem dX10_placeAt_25 : decode cX10_placeAt 25 = .ok (.fconst 0, 1) := by decide +kernel
theorem dX10_placeAt_26 : decode cX10_placeAt 26 = .ok (.fstore_n 3, 1) := by decide +kernel
theorem dX10_placeAt_27 : decode cX10_placeAt 27 = .ok (.sipush (-1000), 3) := by decide +kernel
theorem dX10_placeAt_30 : decode cX10_placeAt 30 = .ok (.istore 4, 2) := by decide +kernel
theorem dX10_placeAt_32 : decode cX10_placeAt 32 = .ok (.iconst 0, 1) := by decide +kernel
theorem dX10_placeAt_33 : decode cX10_placeAt 33 = .ok (.istore 5, 2) := by decide +kernel
theorem dX10_placeAt_35 : decode cX10_placeAt 35 = .ok (.iload 5, 2) := by decide +kernel
theorem dX10_placeAt_37 : decode cX10_placeAt 37 = .ok (.aload_n 0, 1) := by decide +kernel
theorem dX10_placeAt_38 : decode cX10_placeAt 38 = .ok (.getfield 146, 3) := by decide +kernel
theorem dX10_placeAt_41 : decode cX10_placeAt 41 = .ok (.if_icmp .ge 38, 3) := by decide +kernel
theorem dX10_placeAt_44 : decode cX10_placeAt 44 = .ok (.fload_n 3, 1) := by decide +kernel
theorem dX10_placeAt_45 : decode cX10_placeAt 45 = .ok (.fload_n 2, 1) := by decide +kernel
theorem dX10_placeAt_46 : decode cX10_placeAt 46 = .ok (.fcmp .g, 1) := by decide +kernel
theorem dX10_placeAt_47 : decode cX10_placeAt 47 = .ok (.ifCond .gt 8, 3) := by decide +kernel
theorem dX10_placeAt_50 : decode cX10_placeAt 50 = .ok (.iload 5, 2) := by decide +kernel
theorem dX10_placeAt_52 : decode cX10_placeAt 52 = .ok (.goto 5, 3) := by decide +kernel
theorem dX10_placeAt_55 : decode cX10_placeAt 55 = .ok (.iload 4, 2) := by decide +kernel
theorem dX10_placeAt_57 : decode cX10_placeAt 57 = .ok (.istore 4, 2) := by decide +kernel
theorem dX10_placeAt_59 : decode cX10_placeAt 59 = .ok (.fload_n 3, 1) := by decide +kernel
theorem dX10_placeAt_60 : decode cX10_placeAt 60 = .ok (.aload_n 0, 1) := by decide +kernel
theorem dX10_placeAt_61 : decode cX10_placeAt 61 = .ok (.aload_n 0, 1) := by decide +kernel
theorem dX10_placeAt_62 : decode cX10_placeAt 62 = .ok (.getfield 19, 3) := by decide +kernel
theorem dX10_placeAt_65 : decode cX10_placeAt 65 = .ok (.iload 5, 2) := by decide +kernel
theorem dX10_placeAt_67 : decode cX10_placeAt 67 = .ok (.iaload, 1) := by decide +kernel
theorem dX10_placeAt_68 : decode cX10_placeAt 68 = .ok (.invokevirtual 166, 3) := by decide +kernel
theorem dX10_placeAt_71 : decode cX10_placeAt 71 = .ok (.fadd, 1) := by decide +kernel
theorem dX10_placeAt_72 : decode cX10_placeAt 72 = .ok (.fstore_n 3, 1) := by decide +kernel
theorem dX10_placeAt_73 : decode cX10_placeAt 73 = .ok (.iinc 5 1, 3) := by decide +kernel
theorem dX10_placeAt_76 : decode cX10_placeAt 76 = .ok (.goto (-41), 3) := by decide +kernel
theorem dX10_placeAt_79 : decode cX10_placeAt 79 = .ok (.fload_n 3, 1) := by decide +kernel
theorem dX10_placeAt_80 : decode cX10_placeAt 80 = .ok (.fload_n 2, 1) := by decide +kernel
theorem dX10_placeAt_81 : decode cX10_placeAt 81 = .ok (.fcmp .g, 1) := by decide +kernel
theorem dX10_placeAt_82 : decode cX10_placeAt 82 = .ok (.ifCond .gt 9, 3) := by decide +kernel
theorem dX10_placeAt_85 : decode cX10_placeAt 85 = .ok (.sipush (-1000), 3) := by decide +kernel
theorem dX10_placeAt_88 : decode cX10_placeAt 88 = .ok (.goto 5, 3) := by decide +kernel
theorem dX10_placeAt_91 : decode cX10_placeAt 91 = .ok (.iload 4, 2) := by decide +kernel
theorem dX10_placeAt_93 : decode cX10_placeAt 93 = .ok (.ireturn, 1) := by decide +kernel
theorem dX10_beginOf_0 : decode cX10_beginOf 0 = .ok (.iconst 0, 1) := by decide +kernel
theorem dX10_beginOf_1 : decode cX10_beginOf 1 = .ok (.istore_n 2, 1) := by decide +kernel
theorem dX10_beginOf_2 : decode cX10_beginOf 2 = .ok (.iload_n 1, 1) := by decide +kernel
theorem dX10_beginOf_3 : decode cX10_beginOf 3 = .ok (.istore_n 3, 1) := by decide +kernel
theorem dX10_beginOf_4 : decode cX10_beginOf 4 = .ok (.iload_n 3, 1) := by decide +kernel
theorem dX10_beginOf_5 : decode cX10_beginOf 5 = .ok (.ifCond .le 28, 3) := by decide +kernel
theorem dX10_beginOf_8 : decode cX10_beginOf 8 = .ok (.iload_n 3, 1) := by decide +kernel
theorem dX10_beginOf_9 : decode cX10_beginOf 9 = .ok (.aload_n 0, 1) := by decide +kernel
theorem dX10_beginOf_10 : decode cX10_beginOf 10 = .ok (.getfield 22, 3) := by decide +kernel
theorem dX10_beginOf_13 : decode cX10_beginOf 13 = .ok (.iload_n 2, 1) := by decide +kernel
theorem dX10_beginOf_14 : decode cX10_beginOf 14 = .ok (.iaload, 1) := by decide +kernel
theorem dX10_beginOf_15 : decode cX10_beginOf 15 = .ok (.bipush 32, 2) := by decide +kernel
theorem dX10_beginOf_17 : decode cX10_beginOf 17 = .ok (.if_icmp .ne 7, 3) := by decide +kernel
theorem dX10_beginOf_20 : decode cX10_beginOf 20 = .ok (.iconst 1, 1) := by decide +kernel
theorem dX10_beginOf_21 : decode cX10_beginOf 21 = .ok (.goto 4, 3) := by decide +kernel
theorem dX10_beginOf_24 : decode cX10_beginOf 24 = .ok (.iconst 0, 1) := by decide +kernel
theorem dX10_beginOf_25 : decode cX10_beginOf 25 = .ok (.isub, 1) := by decide +kernel
theorem dX10_beginOf_26 : decode cX10_beginOf 26 = .ok (.istore_n 3, 1) := by decide +kernel
theorem dX10_beginOf_27 : decode cX10_beginOf 27 = .ok (.iinc 2 1, 3) := by decide +kernel
theorem dX10_beginOf_30 : decode cX10_beginOf 30 = .ok (.goto (-26), 3) := by decide +kernel
theorem dX10_beginOf_33 : decode cX10_beginOf 33 = .ok (.iload_n 2, 1) := by decide +kernel
theorem dX10_beginOf_34 : decode cX10_beginOf 34 = .ok (.ireturn, 1) := by decide +kernel
theorem dX10_gap_0 : decode cX10_gap 0 = .ok (.aload_n 0, 1) := by decide +kernel
theorem dX10_gap_1 : decode cX10_gap 1 = .ok (.getfield 170, 3) := by decide +kernel
theorem dX10_gap_4 : decode cX10_gap 4 = .ok (.ifCond .le 24, 3) := by decide +kernel
theorem dX10_gap_7 : decode cX10_gap 7 = .ok (.aload_n 0, 1) := by decide +kernel
theorem dX10_gap_8 : decode cX10_gap 8 = .ok (.getfield 25, 3) := by decide +kernel
theorem dX10_gap_11 : decode cX10_gap 11 = .ok (.aload_n 0, 1) := by decide +kernel
theorem dX10_gap_12 : decode cX10_gap 12 = .ok (.getfield 170, 3) := by decide +kernel
theorem dX10_gap_15 : decode cX10_gap 15 = .ok (.bipush 32, 2) := by decide +kernel
theorem dX10_gap_17 : decode cX10_gap 17 = .ok (.iastore, 1) := by decide +kernel
theorem dX10_gap_18 : decode cX10_gap 18 = .ok (.aload_n 0, 1) := by decide +kernel
theorem dX10_gap_19 : decode cX10_gap 19 = .ok (.dup, 1) := by decide +kernel
theorem dX10_gap_20 : decode cX10_gap 20 = .ok (.getfield 170, 3) := by decide +kernel
theorem dX10_gap_23 : decode cX10_gap 23 = .ok (.iconst 1, 1) := by decide +kernel
theorem dX10_gap_24 : decode cX10_gap 24 = .ok (.iadd, 1) := by decide +kernel
theorem dX10_gap_25 : decode cX10_gap 25 = .ok (.putfield 170, 3) := by decide +kernel
theorem dX10_gap_28 : decode cX10_gap 28 = .ok (.return_, 1) := by decide +kernel
theorem dX10_writes_0 : decode cX10_writes 0 = .ok (.aload_n 0, 1) := by decide +kernel
theorem dX10_writes_1 : decode cX10_writes 1 = .ok (.getfield 25, 3) := by decide +kernel
theorem dX10_writes_4 : decode cX10_writes 4 = .ok (.aload_n 0, 1) := by decide +kernel
theorem dX10_writes_5 : decode cX10_writes 5 = .ok (.getfield 170, 3) := by decide +kernel
theorem dX10_writes_8 : decode cX10_writes 8 = .ok (.iload_n 1, 1) := by decide +kernel
theorem dX10_writes_9 : decode cX10_writes 9 = .ok (.iastore, 1) := by decide +kernel
theorem dX10_writes_10 : decode cX10_writes 10 = .ok (.aload_n 0, 1) := by decide +kernel
theorem dX10_writes_11 : decode cX10_writes 11 = .ok (.dup, 1) := by decide +kernel
theorem dX10_writes_12 : decode cX10_writes 12 = .ok (.getfield 170, 3) := by decide +kernel
theorem dX10_writes_15 : decode cX10_writes 15 = .ok (.iconst 1, 1) := by decide +kernel
theorem dX10_writes_16 : decode cX10_writes 16 = .ok (.iadd, 1) := by decide +kernel
theorem dX10_writes_17 : decode cX10_writes 17 = .ok (.putfield 170, 3) := by decide +kernel
theorem dX10_writes_20 : decode cX10_writes 20 = .ok (.return_, 1) := by decide +kernel
theorem dX10_writesWord_0 : decode cX10_writesWord 0 = .ok (.aload_n 0, 1) := by decide +kernel
theorem dX10_writesWord_1 : decode cX10_writesWord 1 = .ok (.invokevirtual 173, 3) := by decide +kernel
theorem dX10_writesWord_4 : decode cX10_writesWord 4 = .ok (.aload_n 0, 1) := by decide +kernel
theorem dX10_writesWord_5 : decode cX10_writesWord 5 = .ok (.iload_n 1, 1) := by decide +kernel
theorem dX10_writesWord_6 : decode cX10_writesWord 6 = .ok (.invokevirtual 176, 3) := by decide +kernel
theorem dX10_writesWord_9 : decode cX10_writesWord 9 = .ok (.istore_n 2, 1) := by decide +kernel
theorem dX10_writesWord_10 : decode cX10_writesWord 10 = .ok (.aload_n 0, 1) := by decide +kernel
theorem dX10_writesWord_11 : decode cX10_writesWord 11 = .ok (.getfield 22, 3) := by decide +kernel
theorem dX10_writesWord_14 : decode cX10_writesWord 14 = .ok (.iload_n 2, 1) := by decide +kernel
theorem dX10_writesWord_15 : decode cX10_writesWord 15 = .ok (.iaload, 1) := by decide +kernel
theorem dX10_writesWord_16 : decode cX10_writesWord 16 = .ok (.bipush 32, 2) := by decide +kernel
theorem dX10_writesWord_18 : decode cX10_writesWord 18 = .ok (.if_icmp .eq 19, 3) := by decide +kernel
theorem dX10_writesWord_21 : decode cX10_writesWord 21 = .ok (.aload_n 0, 1) := by decide +kernel
theorem dX10_writesWord_22 : decode cX10_writesWord 22 = .ok (.aload_n 0, 1) := by decide +kernel
theorem dX10_writesWord_23 : decode cX10_writesWord 23 = .ok (.getfield 22, 3) := by decide +kernel
theorem dX10_writesWord_26 : decode cX10_writesWord 26 = .ok (.iload_n 2, 1) := by decide +kernel
theorem dX10_writesWord_27 : decode cX10_writesWord 27 = .ok (.iaload, 1) := by decide +kernel
theorem dX10_writesWord_28 : decode cX10_writesWord 28 = .ok (.invokevirtual 179, 3) := by decide +kernel
theorem dX10_writesWord_31 : decode cX10_writesWord 31 = .ok (.iinc 2 1, 3) := by decide +kernel
theorem dX10_writesWord_34 : decode cX10_writesWord 34 = .ok (.goto (-24), 3) := by decide +kernel
theorem dX10_writesWord_37 : decode cX10_writesWord 37 = .ok (.return_, 1) := by decide +kernel
theorem dX10_writesNumber_0 : decode cX10_writesNumber 0 = .ok (.aload_n 0, 1) := by decide +kernel
theorem dX10_writesNumber_1 : decode cX10_writesNumber 1 = .ok (.invokevirtual 173, 3) := by decide +kernel
theorem dX10_writesNumber_4 : decode cX10_writesNumber 4 = .ok (.iload_n 1, 1) := by decide +kernel
theorem dX10_writesNumber_5 : decode cX10_writesNumber 5 = .ok (.bipush 9, 2) := by decide +kernel
theorem dX10_writesNumber_7 : decode cX10_writesNumber 7 = .ok (.if_icmp .le 14, 3) := by decide +kernel
theorem dX10_writesNumber_10 : decode cX10_writesNumber 10 = .ok (.aload_n 0, 1) := by decide +kernel
theorem dX10_writesNumber_11 : decode cX10_writesNumber 11 = .ok (.bipush 48, 2) := by decide +kernel
theorem dX10_writesNumber_13 : decode cX10_writesNumber 13 = .ok (.iload_n 1, 1) := by decide +kernel
theorem dX10_writesNumber_14 : decode cX10_writesNumber 14 = .ok (.bipush 10, 2) := by decide +kernel
theorem dX10_writesNumber_16 : decode cX10_writesNumber 16 = .ok (.idiv, 1) := by decide +kernel
theorem dX10_writesNumber_17 : decode cX10_writesNumber 17 = .ok (.iadd, 1) := by decide +kernel
theorem dX10_writesNumber_18 : decode cX10_writesNumber 18 = .ok (.invokevirtual 179, 3) := by decide +kernel
theorem dX10_writesNumber_21 : decode cX10_writesNumber 21 = .ok (.aload_n 0, 1) := by decide +kernel
theorem dX10_writesNumber_22 : decode cX10_writesNumber 22 = .ok (.bipush 48, 2) := by decide +kernel
theorem dX10_writesNumber_24 : decode cX10_writesNumber 24 = .ok (.iload_n 1, 1) := by decide +kernel
theorem dX10_writesNumber_25 : decode cX10_writesNumber 25 = .ok (.bipush 10, 2) := by decide +kernel
theorem dX10_writesNumber_27 : decode cX10_writesNumber 27 = .ok (.irem, 1) := by decide +kernel
theorem dX10_writesNumber_28 : decode cX10_writesNumber 28 = .ok (.iadd, 1) := by decide +kernel
theorem dX10_writesNumber_29 : decode cX10_writesNumber 29 = .ok (.invokevirtual 179, 3) := by decide +kernel
theorem dX10_writesNumber_32 : decode cX10_writesNumber 32 = .ok (.return_, 1) := by decide +kernel
theorem dX10_writesEvent_0 : decode cX10_writesEvent 0 = .ok (.iload_n 1, 1) := by decide +kernel
theorem dX10_writesEvent_1 : decode cX10_writesEvent 1 = .ok (.iload_n 2, 1) := by decide +kernel
theorem dX10_writesEvent_2 : decode cX10_writesEvent 2 = .ok (.iload_n 3, 1) := by decide +kernel
theorem dX10_writesEvent_3 : decode cX10_writesEvent 3 = .ok (.invokestatic 57, 3) := by decide +kernel
theorem dX10_writesEvent_6 : decode cX10_writesEvent 6 = .ok (.istore 4, 2) := by decide +kernel
theorem dX10_writesEvent_8 : decode cX10_writesEvent 8 = .ok (.aload_n 0, 1) := by decide +kernel
theorem dX10_writesEvent_9 : decode cX10_writesEvent 9 = .ok (.getfield 7, 3) := by decide +kernel
theorem dX10_writesEvent_12 : decode cX10_writesEvent 12 = .ok (.iload 4, 2) := by decide +kernel
theorem dX10_writesEvent_14 : decode cX10_writesEvent 14 = .ok (.iconst 0, 1) := by decide +kernel
theorem dX10_writesEvent_15 : decode cX10_writesEvent 15 = .ok (.iadd, 1) := by decide +kernel
theorem dX10_writesEvent_16 : decode cX10_writesEvent 16 = .ok (.iaload, 1) := by decide +kernel
theorem dX10_writesEvent_17 : decode cX10_writesEvent 17 = .ok (.istore 5, 2) := by decide +kernel
theorem dX10_writesEvent_19 : decode cX10_writesEvent 19 = .ok (.iload 5, 2) := by decide +kernel
theorem dX10_writesEvent_21 : decode cX10_writesEvent 21 = .ok (.iconst (-1), 1) := by decide +kernel
theorem dX10_writesEvent_22 : decode cX10_writesEvent 22 = .ok (.if_icmp .ne 12, 3) := by decide +kernel
theorem dX10_writesEvent_25 : decode cX10_writesEvent 25 = .ok (.aload_n 0, 1) := by decide +kernel
theorem dX10_writesEvent_26 : decode cX10_writesEvent 26 = .ok (.bipush 10, 2) := by decide +kernel
theorem dX10_writesEvent_28 : decode cX10_writesEvent 28 = .ok (.invokevirtual 183, 3) := by decide +kernel
theorem dX10_writesEvent_31 : decode cX10_writesEvent 31 = .ok (.goto 57, 3) := by decide +kernel
theorem dX10_writesEvent_34 : decode cX10_writesEvent 34 = .ok (.aload_n 0, 1) := by decide +kernel
theorem dX10_writesEvent_35 : decode cX10_writesEvent 35 = .ok (.invokevirtual 173, 3) := by decide +kernel
theorem dX10_writesEvent_38 : decode cX10_writesEvent 38 = .ok (.aload_n 0, 1) := by decide +kernel
theorem dX10_writesEvent_39 : decode cX10_writesEvent 39 = .ok (.bipush 97, 2) := by decide +kernel
theorem dX10_writesEvent_41 : decode cX10_writesEvent 41 = .ok (.iload 5, 2) := by decide +kernel
theorem dX10_writesEvent_43 : decode cX10_writesEvent 43 = .ok (.iconst 2, 1) := by decide +kernel
theorem dX10_writesEvent_44 : decode cX10_writesEvent 44 = .ok (.iadd, 1) := by decide +kernel
theorem dX10_writesEvent_45 : decode cX10_writesEvent 45 = .ok (.bipush 7, 2) := by decide +kernel
theorem dX10_writesEvent_47 : decode cX10_writesEvent 47 = .ok (.irem, 1) := by decide +kernel
theorem dX10_writesEvent_48 : decode cX10_writesEvent 48 = .ok (.iadd, 1) := by decide +kernel
theorem dX10_writesEvent_49 : decode cX10_writesEvent 49 = .ok (.invokevirtual 179, 3) := by decide +kernel
theorem dX10_writesEvent_52 : decode cX10_writesEvent 52 = .ok (.aload_n 0, 1) := by decide +kernel
theorem dX10_writesEvent_53 : decode cX10_writesEvent 53 = .ok (.getfield 7, 3) := by decide +kernel
theorem dX10_writesEvent_56 : decode cX10_writesEvent 56 = .ok (.iload 4, 2) := by decide +kernel
theorem dX10_writesEvent_58 : decode cX10_writesEvent 58 = .ok (.iconst 1, 1) := by decide +kernel
theorem dX10_writesEvent_59 : decode cX10_writesEvent 59 = .ok (.iadd, 1) := by decide +kernel
theorem dX10_writesEvent_60 : decode cX10_writesEvent 60 = .ok (.iaload, 1) := by decide +kernel
theorem dX10_writesEvent_61 : decode cX10_writesEvent 61 = .ok (.ifCond .le 18, 3) := by decide +kernel
theorem dX10_writesEvent_64 : decode cX10_writesEvent 64 = .ok (.aload_n 0, 1) := by decide +kernel
theorem dX10_writesEvent_65 : decode cX10_writesEvent 65 = .ok (.iconst 4, 1) := by decide +kernel
theorem dX10_writesEvent_66 : decode cX10_writesEvent 66 = .ok (.aload_n 0, 1) := by decide +kernel
theorem dX10_writesEvent_67 : decode cX10_writesEvent 67 = .ok (.getfield 7, 3) := by decide +kernel
theorem dX10_writesEvent_70 : decode cX10_writesEvent 70 = .ok (.iload 4, 2) := by decide +kernel
theorem dX10_writesEvent_72 : decode cX10_writesEvent 72 = .ok (.iconst 1, 1) := by decide +kernel
theorem dX10_writesEvent_73 : decode cX10_writesEvent 73 = .ok (.iadd, 1) := by decide +kernel
theorem dX10_writesEvent_74 : decode cX10_writesEvent 74 = .ok (.iaload, 1) := by decide +kernel
theorem dX10_writesEvent_75 : decode cX10_writesEvent 75 = .ok (.iadd, 1) := by decide +kernel
theorem dX10_writesEvent_76 : decode cX10_writesEvent 76 = .ok (.invokevirtual 183, 3) := by decide +kernel
theorem dX10_writesEvent_79 : decode cX10_writesEvent 79 = .ok (.aload_n 0, 1) := by decide +kernel
theorem dX10_writesEvent_80 : decode cX10_writesEvent 80 = .ok (.iload 5, 2) := by decide +kernel
theorem dX10_writesEvent_82 : decode cX10_writesEvent 82 = .ok (.bipush 7, 2) := by decide +kernel
theorem dX10_writesEvent_84 : decode cX10_writesEvent 84 = .ok (.idiv, 1) := by decide +kernel
theorem dX10_writesEvent_85 : decode cX10_writesEvent 85 = .ok (.invokevirtual 186, 3) := by decide +kernel
theorem dX10_writesEvent_88 : decode cX10_writesEvent 88 = .ok (.aload_n 0, 1) := by decide +kernel
theorem dX10_writesEvent_89 : decode cX10_writesEvent 89 = .ok (.getfield 7, 3) := by decide +kernel
theorem dX10_writesEvent_92 : decode cX10_writesEvent 92 = .ok (.iload 4, 2) := by decide +kernel
theorem dX10_writesEvent_94 : decode cX10_writesEvent 94 = .ok (.iconst 2, 1) := by decide +kernel
theorem dX10_writesEvent_95 : decode cX10_writesEvent 95 = .ok (.iadd, 1) := by decide +kernel
theorem dX10_writesEvent_96 : decode cX10_writesEvent 96 = .ok (.iaload, 1) := by decide +kernel
theorem dX10_writesEvent_97 : decode cX10_writesEvent 97 = .ok (.iconst 2, 1) := by decide +kernel
theorem dX10_writesEvent_98 : decode cX10_writesEvent 98 = .ok (.irem, 1) := by decide +kernel
theorem dX10_writesEvent_99 : decode cX10_writesEvent 99 = .ok (.iconst 1, 1) := by decide +kernel
theorem dX10_writesEvent_100 : decode cX10_writesEvent 100 = .ok (.if_icmp .ne 9, 3) := by decide +kernel
theorem dX10_writesEvent_103 : decode cX10_writesEvent 103 = .ok (.aload_n 0, 1) := by decide +kernel
theorem dX10_writesEvent_104 : decode cX10_writesEvent 104 = .ok (.bipush 11, 2) := by decide +kernel
theorem dX10_writesEvent_106 : decode cX10_writesEvent 106 = .ok (.invokevirtual 183, 3) := by decide +kernel
theorem dX10_writesEvent_109 : decode cX10_writesEvent 109 = .ok (.aload_n 0, 1) := by decide +kernel
theorem dX10_writesEvent_110 : decode cX10_writesEvent 110 = .ok (.bipush 12, 2) := by decide +kernel
theorem dX10_writesEvent_112 : decode cX10_writesEvent 112 = .ok (.aload_n 0, 1) := by decide +kernel
theorem dX10_writesEvent_113 : decode cX10_writesEvent 113 = .ok (.getfield 7, 3) := by decide +kernel
theorem dX10_writesEvent_116 : decode cX10_writesEvent 116 = .ok (.iload 4, 2) := by decide +kernel
theorem dX10_writesEvent_118 : decode cX10_writesEvent 118 = .ok (.iconst 2, 1) := by decide +kernel
theorem dX10_writesEvent_119 : decode cX10_writesEvent 119 = .ok (.iadd, 1) := by decide +kernel
theorem dX10_writesEvent_120 : decode cX10_writesEvent 120 = .ok (.iaload, 1) := by decide +kernel
theorem dX10_writesEvent_121 : decode cX10_writesEvent 121 = .ok (.iconst 2, 1) := by decide +kernel
theorem dX10_writesEvent_122 : decode cX10_writesEvent 122 = .ok (.idiv, 1) := by decide +kernel
theorem dX10_writesEvent_123 : decode cX10_writesEvent 123 = .ok (.iadd, 1) := by decide +kernel
theorem dX10_writesEvent_124 : decode cX10_writesEvent 124 = .ok (.invokevirtual 183, 3) := by decide +kernel
theorem dX10_writesEvent_127 : decode cX10_writesEvent 127 = .ok (.aload_n 0, 1) := by decide +kernel
theorem dX10_writesEvent_128 : decode cX10_writesEvent 128 = .ok (.getfield 7, 3) := by decide +kernel
theorem dX10_writesEvent_131 : decode cX10_writesEvent 131 = .ok (.iload 4, 2) := by decide +kernel
theorem dX10_writesEvent_133 : decode cX10_writesEvent 133 = .ok (.iconst 3, 1) := by decide +kernel
theorem dX10_writesEvent_134 : decode cX10_writesEvent 134 = .ok (.iadd, 1) := by decide +kernel
theorem dX10_writesEvent_135 : decode cX10_writesEvent 135 = .ok (.iaload, 1) := by decide +kernel
theorem dX10_writesEvent_136 : decode cX10_writesEvent 136 = .ok (.iconst 1, 1) := by decide +kernel
theorem dX10_writesEvent_137 : decode cX10_writesEvent 137 = .ok (.if_icmp .ne 9, 3) := by decide +kernel
theorem dX10_writesEvent_140 : decode cX10_writesEvent 140 = .ok (.aload_n 0, 1) := by decide +kernel
theorem dX10_writesEvent_141 : decode cX10_writesEvent 141 = .ok (.bipush 17, 2) := by decide +kernel
theorem dX10_writesEvent_143 : decode cX10_writesEvent 143 = .ok (.invokevirtual 183, 3) := by decide +kernel
theorem dX10_writesEvent_146 : decode cX10_writesEvent 146 = .ok (.return_, 1) := by decide +kernel
theorem dX10_writesKey_0 : decode cX10_writesKey 0 = .ok (.aload_n 0, 1) := by decide +kernel
theorem dX10_writesKey_1 : decode cX10_writesKey 1 = .ok (.iconst 3, 1) := by decide +kernel
theorem dX10_writesKey_2 : decode cX10_writesKey 2 = .ok (.invokevirtual 183, 3) := by decide +kernel
theorem dX10_writesKey_5 : decode cX10_writesKey 5 = .ok (.iload_n 1, 1) := by decide +kernel
theorem dX10_writesKey_6 : decode cX10_writesKey 6 = .ok (.ifCond .ne 11, 3) := by decide +kernel
theorem dX10_writesKey_9 : decode cX10_writesKey 9 = .ok (.aload_n 0, 1) := by decide +kernel
theorem dX10_writesKey_10 : decode cX10_writesKey 10 = .ok (.iconst 4, 1) := by decide +kernel
theorem dX10_writesKey_11 : decode cX10_writesKey 11 = .ok (.invokevirtual 183, 3) := by decide +kernel
theorem dX10_writesKey_14 : decode cX10_writesKey 14 = .ok (.goto 31, 3) := by decide +kernel
theorem dX10_writesKey_17 : decode cX10_writesKey 17 = .ok (.aload_n 0, 1) := by decide +kernel
theorem dX10_writesKey_18 : decode cX10_writesKey 18 = .ok (.iload_n 1, 1) := by decide +kernel
theorem dX10_writesKey_19 : decode cX10_writesKey 19 = .ok (.ifCond .ge 8, 3) := by decide +kernel
theorem dX10_writesKey_22 : decode cX10_writesKey 22 = .ok (.iload_n 1, 1) := by decide +kernel
theorem dX10_writesKey_23 : decode cX10_writesKey 23 = .ok (.ineg, 1) := by decide +kernel
theorem dX10_writesKey_24 : decode cX10_writesKey 24 = .ok (.goto 4, 3) := by decide +kernel
theorem dX10_writesKey_27 : decode cX10_writesKey 27 = .ok (.iload_n 1, 1) := by decide +kernel
theorem dX10_writesKey_28 : decode cX10_writesKey 28 = .ok (.invokevirtual 186, 3) := by decide +kernel
theorem dX10_writesKey_31 : decode cX10_writesKey 31 = .ok (.aload_n 0, 1) := by decide +kernel
theorem dX10_writesKey_32 : decode cX10_writesKey 32 = .ok (.iload_n 1, 1) := by decide +kernel
theorem dX10_writesKey_33 : decode cX10_writesKey 33 = .ok (.ifCond .ge 8, 3) := by decide +kernel
theorem dX10_writesKey_36 : decode cX10_writesKey 36 = .ok (.bipush 6, 2) := by decide +kernel
theorem dX10_writesKey_38 : decode cX10_writesKey 38 = .ok (.goto 4, 3) := by decide +kernel
theorem dX10_writesKey_41 : decode cX10_writesKey 41 = .ok (.iconst 5, 1) := by decide +kernel
theorem dX10_writesKey_42 : decode cX10_writesKey 42 = .ok (.invokevirtual 183, 3) := by decide +kernel
theorem dX10_writesKey_45 : decode cX10_writesKey 45 = .ok (.return_, 1) := by decide +kernel
theorem dX10_isOther_0 : decode cX10_isOther 0 = .ok (.iload_n 1, 1) := by decide +kernel
theorem dX10_isOther_1 : decode cX10_isOther 1 = .ok (.ifCond .eq 20, 3) := by decide +kernel
theorem dX10_isOther_4 : decode cX10_isOther 4 = .ok (.aload_n 0, 1) := by decide +kernel
theorem dX10_isOther_5 : decode cX10_isOther 5 = .ok (.iload_n 1, 1) := by decide +kernel
theorem dX10_isOther_6 : decode cX10_isOther 6 = .ok (.iload_n 2, 1) := by decide +kernel
theorem dX10_isOther_7 : decode cX10_isOther 7 = .ok (.invokevirtual 53, 3) := by decide +kernel
theorem dX10_isOther_10 : decode cX10_isOther 10 = .ok (.aload_n 0, 1) := by decide +kernel
theorem dX10_isOther_11 : decode cX10_isOther 11 = .ok (.iload_n 1, 1) := by decide +kernel
theorem dX10_isOther_12 : decode cX10_isOther 12 = .ok (.iconst 1, 1) := by decide +kernel
theorem dX10_isOther_13 : decode cX10_isOther 13 = .ok (.isub, 1) := by decide +kernel
theorem dX10_isOther_14 : decode cX10_isOther 14 = .ok (.iload_n 2, 1) := by decide +kernel
theorem dX10_isOther_15 : decode cX10_isOther 15 = .ok (.invokevirtual 53, 3) := by decide +kernel
theorem dX10_isOther_18 : decode cX10_isOther 18 = .ok (.if_icmp .eq 7, 3) := by decide +kernel
theorem dX10_isOther_21 : decode cX10_isOther 21 = .ok (.iconst 1, 1) := by decide +kernel
theorem dX10_isOther_22 : decode cX10_isOther 22 = .ok (.goto 4, 3) := by decide +kernel
theorem dX10_isOther_25 : decode cX10_isOther 25 = .ok (.iconst 0, 1) := by decide +kernel
theorem dX10_isOther_26 : decode cX10_isOther 26 = .ok (.ireturn, 1) := by decide +kernel
theorem dX10_tellsAll_0 : decode cX10_tellsAll 0 = .ok (.aload_n 0, 1) := by decide +kernel
theorem dX10_tellsAll_1 : decode cX10_tellsAll 1 = .ok (.iconst 0, 1) := by decide +kernel
theorem dX10_tellsAll_2 : decode cX10_tellsAll 2 = .ok (.putfield 170, 3) := by decide +kernel
theorem dX10_tellsAll_5 : decode cX10_tellsAll 5 = .ok (.aload_n 0, 1) := by decide +kernel
theorem dX10_tellsAll_6 : decode cX10_tellsAll 6 = .ok (.iconst 0, 1) := by decide +kernel
theorem dX10_tellsAll_7 : decode cX10_tellsAll 7 = .ok (.invokevirtual 183, 3) := by decide +kernel
theorem dX10_tellsAll_10 : decode cX10_tellsAll 10 = .ok (.aload_n 0, 1) := by decide +kernel
theorem dX10_tellsAll_11 : decode cX10_tellsAll 11 = .ok (.iload_n 1, 1) := by decide +kernel
theorem dX10_tellsAll_12 : decode cX10_tellsAll 12 = .ok (.iconst 1, 1) := by decide +kernel
theorem dX10_tellsAll_13 : decode cX10_tellsAll 13 = .ok (.iadd, 1) := by decide +kernel
theorem dX10_tellsAll_14 : decode cX10_tellsAll 14 = .ok (.invokevirtual 186, 3) := by decide +kernel
theorem dX10_tellsAll_17 : decode cX10_tellsAll 17 = .ok (.aload_n 0, 1) := by decide +kernel
theorem dX10_tellsAll_18 : decode cX10_tellsAll 18 = .ok (.iload_n 1, 1) := by decide +kernel
theorem dX10_tellsAll_19 : decode cX10_tellsAll 19 = .ok (.iconst 4, 1) := by decide +kernel
theorem dX10_tellsAll_20 : decode cX10_tellsAll 20 = .ok (.invokevirtual 53, 3) := by decide +kernel
theorem dX10_tellsAll_23 : decode cX10_tellsAll 23 = .ok (.iconst 1, 1) := by decide +kernel
theorem dX10_tellsAll_24 : decode cX10_tellsAll 24 = .ok (.if_icmp .ne 8, 3) := by decide +kernel
theorem dX10_tellsAll_27 : decode cX10_tellsAll 27 = .ok (.aload_n 0, 1) := by decide +kernel
theorem dX10_tellsAll_28 : decode cX10_tellsAll 28 = .ok (.iconst 1, 1) := by decide +kernel
theorem dX10_tellsAll_29 : decode cX10_tellsAll 29 = .ok (.invokevirtual 183, 3) := by decide +kernel
theorem dX10_tellsAll_32 : decode cX10_tellsAll 32 = .ok (.aload_n 0, 1) := by decide +kernel
theorem dX10_tellsAll_33 : decode cX10_tellsAll 33 = .ok (.iload_n 1, 1) := by decide +kernel
theorem dX10_tellsAll_34 : decode cX10_tellsAll 34 = .ok (.bipush 6, 2) := by decide +kernel
theorem dX10_tellsAll_36 : decode cX10_tellsAll 36 = .ok (.invokevirtual 53, 3) := by decide +kernel
theorem dX10_tellsAll_39 : decode cX10_tellsAll 39 = .ok (.ifCond .le 19, 3) := by decide +kernel
theorem dX10_tellsAll_42 : decode cX10_tellsAll 42 = .ok (.aload_n 0, 1) := by decide +kernel
theorem dX10_tellsAll_43 : decode cX10_tellsAll 43 = .ok (.iconst 2, 1) := by decide +kernel
theorem dX10_tellsAll_44 : decode cX10_tellsAll 44 = .ok (.invokevirtual 183, 3) := by decide +kernel
theorem dX10_tellsAll_47 : decode cX10_tellsAll 47 = .ok (.aload_n 0, 1) := by decide +kernel
theorem dX10_tellsAll_48 : decode cX10_tellsAll 48 = .ok (.aload_n 0, 1) := by decide +kernel
theorem dX10_tellsAll_49 : decode cX10_tellsAll 49 = .ok (.iload_n 1, 1) := by decide +kernel
theorem dX10_tellsAll_50 : decode cX10_tellsAll 50 = .ok (.bipush 6, 2) := by decide +kernel
theorem dX10_tellsAll_52 : decode cX10_tellsAll 52 = .ok (.invokevirtual 53, 3) := by decide +kernel
theorem dX10_tellsAll_55 : decode cX10_tellsAll 55 = .ok (.invokevirtual 186, 3) := by decide +kernel
theorem dX10_tellsAll_58 : decode cX10_tellsAll 58 = .ok (.aload_n 0, 1) := by decide +kernel
theorem dX10_tellsAll_59 : decode cX10_tellsAll 59 = .ok (.iload_n 1, 1) := by decide +kernel
theorem dX10_tellsAll_60 : decode cX10_tellsAll 60 = .ok (.iconst 0, 1) := by decide +kernel
theorem dX10_tellsAll_61 : decode cX10_tellsAll 61 = .ok (.invokevirtual 189, 3) := by decide +kernel
theorem dX10_tellsAll_64 : decode cX10_tellsAll 64 = .ok (.ifCond .eq 13, 3) := by decide +kernel
theorem dX10_tellsAll_67 : decode cX10_tellsAll 67 = .ok (.aload_n 0, 1) := by decide +kernel
theorem dX10_tellsAll_68 : decode cX10_tellsAll 68 = .ok (.aload_n 0, 1) := by decide +kernel
theorem dX10_tellsAll_69 : decode cX10_tellsAll 69 = .ok (.iload_n 1, 1) := by decide +kernel
theorem dX10_tellsAll_70 : decode cX10_tellsAll 70 = .ok (.iconst 0, 1) := by decide +kernel
theorem dX10_tellsAll_71 : decode cX10_tellsAll 71 = .ok (.invokevirtual 53, 3) := by decide +kernel
theorem dX10_tellsAll_74 : decode cX10_tellsAll 74 = .ok (.invokevirtual 192, 3) := by decide +kernel
theorem dX10_tellsAll_77 : decode cX10_tellsAll 77 = .ok (.aload_n 0, 1) := by decide +kernel
theorem dX10_tellsAll_78 : decode cX10_tellsAll 78 = .ok (.iload_n 1, 1) := by decide +kernel
theorem dX10_tellsAll_79 : decode cX10_tellsAll 79 = .ok (.iconst 1, 1) := by decide +kernel
theorem dX10_tellsAll_80 : decode cX10_tellsAll 80 = .ok (.invokevirtual 189, 3) := by decide +kernel
theorem dX10_tellsAll_83 : decode cX10_tellsAll 83 = .ok (.ifCond .ne 12, 3) := by decide +kernel
theorem dX10_tellsAll_86 : decode cX10_tellsAll 86 = .ok (.aload_n 0, 1) := by decide +kernel
theorem dX10_tellsAll_87 : decode cX10_tellsAll 87 = .ok (.iload_n 1, 1) := by decide +kernel
theorem dX10_tellsAll_88 : decode cX10_tellsAll 88 = .ok (.iconst 2, 1) := by decide +kernel
theorem dX10_tellsAll_89 : decode cX10_tellsAll 89 = .ok (.invokevirtual 189, 3) := by decide +kernel
theorem dX10_tellsAll_92 : decode cX10_tellsAll 92 = .ok (.ifCond .eq 29, 3) := by decide +kernel
theorem dX10_tellsAll_95 : decode cX10_tellsAll 95 = .ok (.aload_n 0, 1) := by decide +kernel
theorem dX10_tellsAll_96 : decode cX10_tellsAll 96 = .ok (.bipush 8, 2) := by decide +kernel
theorem dX10_tellsAll_98 : decode cX10_tellsAll 98 = .ok (.invokevirtual 183, 3) := by decide +kernel
theorem dX10_tellsAll_101 : decode cX10_tellsAll 101 = .ok (.aload_n 0, 1) := by decide +kernel
theorem dX10_tellsAll_102 : decode cX10_tellsAll 102 = .ok (.aload_n 0, 1) := by decide +kernel
theorem dX10_tellsAll_103 : decode cX10_tellsAll 103 = .ok (.iload_n 1, 1) := by decide +kernel
theorem dX10_tellsAll_104 : decode cX10_tellsAll 104 = .ok (.iconst 1, 1) := by decide +kernel
theorem dX10_tellsAll_105 : decode cX10_tellsAll 105 = .ok (.invokevirtual 53, 3) := by decide +kernel
theorem dX10_tellsAll_108 : decode cX10_tellsAll 108 = .ok (.invokevirtual 186, 3) := by decide +kernel
theorem dX10_tellsAll_111 : decode cX10_tellsAll 111 = .ok (.aload_n 0, 1) := by decide +kernel
theorem dX10_tellsAll_112 : decode cX10_tellsAll 112 = .ok (.aload_n 0, 1) := by decide +kernel
theorem dX10_tellsAll_113 : decode cX10_tellsAll 113 = .ok (.iload_n 1, 1) := by decide +kernel
theorem dX10_tellsAll_114 : decode cX10_tellsAll 114 = .ok (.iconst 2, 1) := by decide +kernel
theorem dX10_tellsAll_115 : decode cX10_tellsAll 115 = .ok (.invokevirtual 53, 3) := by decide +kernel
theorem dX10_tellsAll_118 : decode cX10_tellsAll 118 = .ok (.invokevirtual 186, 3) := by decide +kernel
theorem dX10_tellsAll_121 : decode cX10_tellsAll 121 = .ok (.iconst 0, 1) := by decide +kernel
theorem dX10_tellsAll_122 : decode cX10_tellsAll 122 = .ok (.istore_n 2, 1) := by decide +kernel
theorem dX10_tellsAll_123 : decode cX10_tellsAll 123 = .ok (.iload_n 2, 1) := by decide +kernel
theorem dX10_tellsAll_124 : decode cX10_tellsAll 124 = .ok (.iconst 2, 1) := by decide +kernel
theorem dX10_tellsAll_125 : decode cX10_tellsAll 125 = .ok (.if_icmp .ge 54, 3) := by decide +kernel
theorem dX10_tellsAll_128 : decode cX10_tellsAll 128 = .ok (.iconst 0, 1) := by decide +kernel
theorem dX10_tellsAll_129 : decode cX10_tellsAll 129 = .ok (.istore_n 3, 1) := by decide +kernel
theorem dX10_tellsAll_130 : decode cX10_tellsAll 130 = .ok (.iload_n 3, 1) := by decide +kernel
theorem dX10_tellsAll_131 : decode cX10_tellsAll 131 = .ok (.aload_n 0, 1) := by decide +kernel
theorem dX10_tellsAll_132 : decode cX10_tellsAll 132 = .ok (.iload_n 1, 1) := by decide +kernel
theorem dX10_tellsAll_133 : decode cX10_tellsAll 133 = .ok (.bipush 7, 2) := by decide +kernel
theorem dX10_tellsAll_135 : decode cX10_tellsAll 135 = .ok (.iload_n 2, 1) := by decide +kernel
theorem dX10_tellsAll_136 : decode cX10_tellsAll 136 = .ok (.iadd, 1) := by decide +kernel
theorem dX10_tellsAll_137 : decode cX10_tellsAll 137 = .ok (.invokevirtual 53, 3) := by decide +kernel
theorem dX10_tellsAll_140 : decode cX10_tellsAll 140 = .ok (.if_icmp .ge 33, 3) := by decide +kernel
theorem dX10_tellsAll_143 : decode cX10_tellsAll 143 = .ok (.iload_n 3, 1) := by decide +kernel
theorem dX10_tellsAll_144 : decode cX10_tellsAll 144 = .ok (.ifCond .ne 16, 3) := by decide +kernel
theorem dX10_tellsAll_147 : decode cX10_tellsAll 147 = .ok (.aload_n 0, 1) := by decide +kernel
theorem dX10_tellsAll_148 : decode cX10_tellsAll 148 = .ok (.bipush 9, 2) := by decide +kernel
theorem dX10_tellsAll_150 : decode cX10_tellsAll 150 = .ok (.invokevirtual 183, 3) := by decide +kernel
theorem dX10_tellsAll_153 : decode cX10_tellsAll 153 = .ok (.aload_n 0, 1) := by decide +kernel
theorem dX10_tellsAll_154 : decode cX10_tellsAll 154 = .ok (.iload_n 2, 1) := by decide +kernel
theorem dX10_tellsAll_155 : decode cX10_tellsAll 155 = .ok (.iconst 1, 1) := by decide +kernel
theorem dX10_tellsAll_156 : decode cX10_tellsAll 156 = .ok (.iadd, 1) := by decide +kernel
theorem dX10_tellsAll_157 : decode cX10_tellsAll 157 = .ok (.invokevirtual 186, 3) := by decide +kernel
theorem dX10_tellsAll_160 : decode cX10_tellsAll 160 = .ok (.aload_n 0, 1) := by decide +kernel
theorem dX10_tellsAll_161 : decode cX10_tellsAll 161 = .ok (.iload_n 1, 1) := by decide +kernel
theorem dX10_tellsAll_162 : decode cX10_tellsAll 162 = .ok (.iload_n 2, 1) := by decide +kernel
theorem dX10_tellsAll_163 : decode cX10_tellsAll 163 = .ok (.iload_n 3, 1) := by decide +kernel
theorem dX10_tellsAll_164 : decode cX10_tellsAll 164 = .ok (.invokevirtual 195, 3) := by decide +kernel
theorem dX10_tellsAll_167 : decode cX10_tellsAll 167 = .ok (.iinc 3 1, 3) := by decide +kernel
theorem dX10_tellsAll_170 : decode cX10_tellsAll 170 = .ok (.goto (-40), 3) := by decide +kernel
theorem dX10_tellsAll_173 : decode cX10_tellsAll 173 = .ok (.iinc 2 1, 3) := by decide +kernel
theorem dX10_tellsAll_176 : decode cX10_tellsAll 176 = .ok (.goto (-53), 3) := by decide +kernel
theorem dX10_tellsAll_179 : decode cX10_tellsAll 179 = .ok (.aload_n 0, 1) := by decide +kernel
theorem dX10_tellsAll_180 : decode cX10_tellsAll 180 = .ok (.iload_n 1, 1) := by decide +kernel
theorem dX10_tellsAll_181 : decode cX10_tellsAll 181 = .ok (.iconst 5, 1) := by decide +kernel
theorem dX10_tellsAll_182 : decode cX10_tellsAll 182 = .ok (.invokevirtual 53, 3) := by decide +kernel
theorem dX10_tellsAll_185 : decode cX10_tellsAll 185 = .ok (.ifCond .le 19, 3) := by decide +kernel
theorem dX10_tellsAll_188 : decode cX10_tellsAll 188 = .ok (.aload_n 0, 1) := by decide +kernel
theorem dX10_tellsAll_189 : decode cX10_tellsAll 189 = .ok (.bipush 18, 2) := by decide +kernel
theorem dX10_tellsAll_191 : decode cX10_tellsAll 191 = .ok (.invokevirtual 183, 3) := by decide +kernel
theorem dX10_tellsAll_194 : decode cX10_tellsAll 194 = .ok (.aload_n 0, 1) := by decide +kernel
theorem dX10_tellsAll_195 : decode cX10_tellsAll 195 = .ok (.aload_n 0, 1) := by decide +kernel
theorem dX10_tellsAll_196 : decode cX10_tellsAll 196 = .ok (.iload_n 1, 1) := by decide +kernel
theorem dX10_tellsAll_197 : decode cX10_tellsAll 197 = .ok (.iconst 5, 1) := by decide +kernel
theorem dX10_tellsAll_198 : decode cX10_tellsAll 198 = .ok (.invokevirtual 53, 3) := by decide +kernel
theorem dX10_tellsAll_201 : decode cX10_tellsAll 201 = .ok (.invokevirtual 186, 3) := by decide +kernel
theorem dX10_tellsAll_204 : decode cX10_tellsAll 204 = .ok (.aload_n 0, 1) := by decide +kernel
theorem dX10_tellsAll_205 : decode cX10_tellsAll 205 = .ok (.bipush 19, 2) := by decide +kernel
theorem dX10_tellsAll_207 : decode cX10_tellsAll 207 = .ok (.invokevirtual 183, 3) := by decide +kernel
theorem dX10_tellsAll_210 : decode cX10_tellsAll 210 = .ok (.return_, 1) := by decide +kernel
theorem dX10_sentenceLength_0 : decode cX10_sentenceLength 0 = .ok (.aload_n 0, 1) := by decide +kernel
theorem dX10_sentenceLength_1 : decode cX10_sentenceLength 1 = .ok (.aload_n 0, 1) := by decide +kernel
theorem dX10_sentenceLength_2 : decode cX10_sentenceLength 2 = .ok (.iload_n 1, 1) := by decide +kernel
theorem dX10_sentenceLength_3 : decode cX10_sentenceLength 3 = .ok (.invokevirtual 46, 3) := by decide +kernel
theorem dX10_sentenceLength_6 : decode cX10_sentenceLength 6 = .ok (.ifCond .eq 7, 3) := by decide +kernel
theorem dX10_sentenceLength_9 : decode cX10_sentenceLength 9 = .ok (.iconst 0, 1) := by decide +kernel
theorem dX10_sentenceLength_10 : decode cX10_sentenceLength 10 = .ok (.goto 4, 3) := by decide +kernel
theorem dX10_sentenceLength_13 : decode cX10_sentenceLength 13 = .ok (.iconst 1, 1) := by decide +kernel
theorem dX10_sentenceLength_14 : decode cX10_sentenceLength 14 = .ok (.invokevirtual 38, 3) := by decide +kernel
theorem dX10_sentenceLength_17 : decode cX10_sentenceLength 17 = .ok (.ifCond .eq 5, 3) := by decide +kernel
theorem dX10_sentenceLength_20 : decode cX10_sentenceLength 20 = .ok (.iconst 0, 1) := by decide +kernel
theorem dX10_sentenceLength_21 : decode cX10_sentenceLength 21 = .ok (.ireturn, 1) := by decide +kernel
theorem dX10_sentenceLength_22 : decode cX10_sentenceLength 22 = .ok (.aload_n 0, 1) := by decide +kernel
theorem dX10_sentenceLength_23 : decode cX10_sentenceLength 23 = .ok (.iload_n 1, 1) := by decide +kernel
theorem dX10_sentenceLength_24 : decode cX10_sentenceLength 24 = .ok (.invokevirtual 199, 3) := by decide +kernel
theorem dX10_sentenceLength_27 : decode cX10_sentenceLength 27 = .ok (.aload_n 0, 1) := by decide +kernel
theorem dX10_sentenceLength_28 : decode cX10_sentenceLength 28 = .ok (.getfield 170, 3) := by decide +kernel
theorem dX10_sentenceLength_31 : decode cX10_sentenceLength 31 = .ok (.ireturn, 1) := by decide +kernel
theorem dX10_sentenceByte_0 : decode cX10_sentenceByte 0 = .ok (.aload_n 0, 1) := by decide +kernel
theorem dX10_sentenceByte_1 : decode cX10_sentenceByte 1 = .ok (.aload_n 0, 1) := by decide +kernel
theorem dX10_sentenceByte_2 : decode cX10_sentenceByte 2 = .ok (.iload_n 1, 1) := by decide +kernel
theorem dX10_sentenceByte_3 : decode cX10_sentenceByte 3 = .ok (.invokevirtual 46, 3) := by decide +kernel
theorem dX10_sentenceByte_6 : decode cX10_sentenceByte 6 = .ok (.ifCond .ne 7, 3) := by decide +kernel
theorem dX10_sentenceByte_9 : decode cX10_sentenceByte 9 = .ok (.iconst 1, 1) := by decide +kernel
theorem dX10_sentenceByte_10 : decode cX10_sentenceByte 10 = .ok (.goto 12, 3) := by decide +kernel
theorem dX10_sentenceByte_13 : decode cX10_sentenceByte 13 = .ok (.iload_n 2, 1) := by decide +kernel
theorem dX10_sentenceByte_14 : decode cX10_sentenceByte 14 = .ok (.ifCond .ge 7, 3) := by decide +kernel
theorem dX10_sentenceByte_17 : decode cX10_sentenceByte 17 = .ok (.iconst 2, 1) := by decide +kernel
theorem dX10_sentenceByte_18 : decode cX10_sentenceByte 18 = .ok (.goto 4, 3) := by decide +kernel
theorem dX10_sentenceByte_21 : decode cX10_sentenceByte 21 = .ok (.iconst 0, 1) := by decide +kernel
theorem dX10_sentenceByte_22 : decode cX10_sentenceByte 22 = .ok (.invokevirtual 38, 3) := by decide +kernel
theorem dX10_sentenceByte_25 : decode cX10_sentenceByte 25 = .ok (.ifCond .eq 5, 3) := by decide +kernel
theorem dX10_sentenceByte_28 : decode cX10_sentenceByte 28 = .ok (.iconst 0, 1) := by decide +kernel
theorem dX10_sentenceByte_29 : decode cX10_sentenceByte 29 = .ok (.ireturn, 1) := by decide +kernel
theorem dX10_sentenceByte_30 : decode cX10_sentenceByte 30 = .ok (.aload_n 0, 1) := by decide +kernel
theorem dX10_sentenceByte_31 : decode cX10_sentenceByte 31 = .ok (.iload_n 1, 1) := by decide +kernel
theorem dX10_sentenceByte_32 : decode cX10_sentenceByte 32 = .ok (.invokevirtual 199, 3) := by decide +kernel
theorem dX10_sentenceByte_35 : decode cX10_sentenceByte 35 = .ok (.iload_n 2, 1) := by decide +kernel
theorem dX10_sentenceByte_36 : decode cX10_sentenceByte 36 = .ok (.aload_n 0, 1) := by decide +kernel
theorem dX10_sentenceByte_37 : decode cX10_sentenceByte 37 = .ok (.getfield 170, 3) := by decide +kernel
theorem dX10_sentenceByte_40 : decode cX10_sentenceByte 40 = .ok (.if_icmp .ge 12, 3) := by decide +kernel
theorem dX10_sentenceByte_43 : decode cX10_sentenceByte 43 = .ok (.aload_n 0, 1) := by decide +kernel
theorem dX10_sentenceByte_44 : decode cX10_sentenceByte 44 = .ok (.getfield 25, 3) := by decide +kernel
theorem dX10_sentenceByte_47 : decode cX10_sentenceByte 47 = .ok (.iload_n 2, 1) := by decide +kernel
theorem dX10_sentenceByte_48 : decode cX10_sentenceByte 48 = .ok (.iaload, 1) := by decide +kernel
theorem dX10_sentenceByte_49 : decode cX10_sentenceByte 49 = .ok (.goto 6, 3) := by decide +kernel
theorem dX10_sentenceByte_52 : decode cX10_sentenceByte 52 = .ok (.sipush (-1000), 3) := by decide +kernel
theorem dX10_sentenceByte_55 : decode cX10_sentenceByte 55 = .ok (.ireturn, 1) := by decide +kernel
theorem dX10_words_0 : decode cX10_words 0 = .ok (.aload_n 0, 1) := by decide +kernel
theorem dX10_words_1 : decode cX10_words 1 = .ok (.aload_n 0, 1) := by decide +kernel
theorem dX10_words_2 : decode cX10_words 2 = .ok (.iload_n 1, 1) := by decide +kernel
theorem dX10_words_3 : decode cX10_words 3 = .ok (.invokevirtual 46, 3) := by decide +kernel
theorem dX10_words_6 : decode cX10_words 6 = .ok (.ifCond .eq 7, 3) := by decide +kernel
theorem dX10_words_9 : decode cX10_words 9 = .ok (.iconst 0, 1) := by decide +kernel
theorem dX10_words_10 : decode cX10_words 10 = .ok (.goto 4, 3) := by decide +kernel
theorem dX10_words_13 : decode cX10_words 13 = .ok (.iconst 1, 1) := by decide +kernel
theorem dX10_words_14 : decode cX10_words 14 = .ok (.invokevirtual 38, 3) := by decide +kernel
theorem dX10_words_17 : decode cX10_words 17 = .ok (.ifCond .eq 5, 3) := by decide +kernel
theorem dX10_words_20 : decode cX10_words 20 = .ok (.iconst 0, 1) := by decide +kernel
theorem dX10_words_21 : decode cX10_words 21 = .ok (.ireturn, 1) := by decide +kernel
theorem dX10_words_22 : decode cX10_words 22 = .ok (.aload_n 0, 1) := by decide +kernel
theorem dX10_words_23 : decode cX10_words 23 = .ok (.iload_n 1, 1) := by decide +kernel
theorem dX10_words_24 : decode cX10_words 24 = .ok (.invokevirtual 199, 3) := by decide +kernel
theorem dX10_words_27 : decode cX10_words 27 = .ok (.iconst 1, 1) := by decide +kernel
theorem dX10_words_28 : decode cX10_words 28 = .ok (.istore_n 2, 1) := by decide +kernel
theorem dX10_words_29 : decode cX10_words 29 = .ok (.iconst 0, 1) := by decide +kernel
theorem dX10_words_30 : decode cX10_words 30 = .ok (.istore_n 3, 1) := by decide +kernel
theorem dX10_words_31 : decode cX10_words 31 = .ok (.iload_n 3, 1) := by decide +kernel
theorem dX10_words_32 : decode cX10_words 32 = .ok (.aload_n 0, 1) := by decide +kernel
theorem dX10_words_33 : decode cX10_words 33 = .ok (.getfield 170, 3) := by decide +kernel
theorem dX10_words_36 : decode cX10_words 36 = .ok (.if_icmp .ge 28, 3) := by decide +kernel
theorem dX10_words_39 : decode cX10_words 39 = .ok (.iload_n 2, 1) := by decide +kernel
theorem dX10_words_40 : decode cX10_words 40 = .ok (.aload_n 0, 1) := by decide +kernel
theorem dX10_words_41 : decode cX10_words 41 = .ok (.getfield 25, 3) := by decide +kernel
theorem dX10_words_44 : decode cX10_words 44 = .ok (.iload_n 3, 1) := by decide +kernel
theorem dX10_words_45 : decode cX10_words 45 = .ok (.iaload, 1) := by decide +kernel
theorem dX10_words_46 : decode cX10_words 46 = .ok (.bipush 32, 2) := by decide +kernel
theorem dX10_words_48 : decode cX10_words 48 = .ok (.if_icmp .ne 7, 3) := by decide +kernel
theorem dX10_words_51 : decode cX10_words 51 = .ok (.iconst 1, 1) := by decide +kernel
theorem dX10_words_52 : decode cX10_words 52 = .ok (.goto 4, 3) := by decide +kernel
theorem dX10_words_55 : decode cX10_words 55 = .ok (.iconst 0, 1) := by decide +kernel
theorem dX10_words_56 : decode cX10_words 56 = .ok (.iadd, 1) := by decide +kernel
theorem dX10_words_57 : decode cX10_words 57 = .ok (.istore_n 2, 1) := by decide +kernel
theorem dX10_words_58 : decode cX10_words 58 = .ok (.iinc 3 1, 3) := by decide +kernel
theorem dX10_words_61 : decode cX10_words 61 = .ok (.goto (-30), 3) := by decide +kernel
theorem dX10_words_64 : decode cX10_words 64 = .ok (.iload_n 2, 1) := by decide +kernel
theorem dX10_words_65 : decode cX10_words 65 = .ok (.ireturn, 1) := by decide +kernel
theorem dX10_copySentence_0 : decode cX10_copySentence 0 = .ok (.aload_n 0, 1) := by decide +kernel
theorem dX10_copySentence_1 : decode cX10_copySentence 1 = .ok (.aload_n 0, 1) := by decide +kernel
theorem dX10_copySentence_2 : decode cX10_copySentence 2 = .ok (.iload_n 1, 1) := by decide +kernel
theorem dX10_copySentence_3 : decode cX10_copySentence 3 = .ok (.invokevirtual 46, 3) := by decide +kernel
theorem dX10_copySentence_6 : decode cX10_copySentence 6 = .ok (.ifCond .eq 7, 3) := by decide +kernel
theorem dX10_copySentence_9 : decode cX10_copySentence 9 = .ok (.iconst 0, 1) := by decide +kernel
theorem dX10_copySentence_10 : decode cX10_copySentence 10 = .ok (.goto 4, 3) := by decide +kernel
theorem dX10_copySentence_13 : decode cX10_copySentence 13 = .ok (.iconst 1, 1) := by decide +kernel
theorem dX10_copySentence_14 : decode cX10_copySentence 14 = .ok (.invokevirtual 38, 3) := by decide +kernel
theorem dX10_copySentence_17 : decode cX10_copySentence 17 = .ok (.ifCond .eq 5, 3) := by decide +kernel
theorem dX10_copySentence_20 : decode cX10_copySentence 20 = .ok (.iconst 0, 1) := by decide +kernel
theorem dX10_copySentence_21 : decode cX10_copySentence 21 = .ok (.ireturn, 1) := by decide +kernel
theorem dX10_copySentence_22 : decode cX10_copySentence 22 = .ok (.aload_n 0, 1) := by decide +kernel
theorem dX10_copySentence_23 : decode cX10_copySentence 23 = .ok (.iload_n 1, 1) := by decide +kernel
theorem dX10_copySentence_24 : decode cX10_copySentence 24 = .ok (.invokevirtual 199, 3) := by decide +kernel
theorem dX10_copySentence_27 : decode cX10_copySentence 27 = .ok (.aload_n 0, 1) := by decide +kernel
theorem dX10_copySentence_28 : decode cX10_copySentence 28 = .ok (.aload_n 0, 1) := by decide +kernel
theorem dX10_copySentence_29 : decode cX10_copySentence 29 = .ok (.getfield 170, 3) := by decide +kernel
theorem dX10_copySentence_32 : decode cX10_copySentence 32 = .ok (.sipush 600, 3) := by decide +kernel
theorem dX10_copySentence_35 : decode cX10_copySentence 35 = .ok (.if_icmp .le 7, 3) := by decide +kernel
theorem dX10_copySentence_38 : decode cX10_copySentence 38 = .ok (.iconst 2, 1) := by decide +kernel
theorem dX10_copySentence_39 : decode cX10_copySentence 39 = .ok (.goto 4, 3) := by decide +kernel
theorem dX10_copySentence_42 : decode cX10_copySentence 42 = .ok (.iconst 0, 1) := by decide +kernel
theorem dX10_copySentence_43 : decode cX10_copySentence 43 = .ok (.invokevirtual 38, 3) := by decide +kernel
theorem dX10_copySentence_46 : decode cX10_copySentence 46 = .ok (.ifCond .eq 5, 3) := by decide +kernel
theorem dX10_copySentence_49 : decode cX10_copySentence 49 = .ok (.iconst 0, 1) := by decide +kernel
theorem dX10_copySentence_50 : decode cX10_copySentence 50 = .ok (.ireturn, 1) := by decide +kernel
theorem dX10_copySentence_51 : decode cX10_copySentence 51 = .ok (.aload_n 0, 1) := by decide +kernel
theorem dX10_copySentence_52 : decode cX10_copySentence 52 = .ok (.aload_n 0, 1) := by decide +kernel
theorem dX10_copySentence_53 : decode cX10_copySentence 53 = .ok (.getfield 170, 3) := by decide +kernel
theorem dX10_copySentence_56 : decode cX10_copySentence 56 = .ok (.putfield 152, 3) := by decide +kernel
theorem dX10_copySentence_59 : decode cX10_copySentence 59 = .ok (.iconst 0, 1) := by decide +kernel
theorem dX10_copySentence_60 : decode cX10_copySentence 60 = .ok (.istore_n 2, 1) := by decide +kernel
theorem dX10_copySentence_61 : decode cX10_copySentence 61 = .ok (.iload_n 2, 1) := by decide +kernel
theorem dX10_copySentence_62 : decode cX10_copySentence 62 = .ok (.aload_n 0, 1) := by decide +kernel
theorem dX10_copySentence_63 : decode cX10_copySentence 63 = .ok (.getfield 152, 3) := by decide +kernel
theorem dX10_copySentence_66 : decode cX10_copySentence 66 = .ok (.if_icmp .ge 21, 3) := by decide +kernel
theorem dX10_copySentence_69 : decode cX10_copySentence 69 = .ok (.aload_n 0, 1) := by decide +kernel
theorem dX10_copySentence_70 : decode cX10_copySentence 70 = .ok (.getfield 16, 3) := by decide +kernel
theorem dX10_copySentence_73 : decode cX10_copySentence 73 = .ok (.iload_n 2, 1) := by decide +kernel
theorem dX10_copySentence_74 : decode cX10_copySentence 74 = .ok (.aload_n 0, 1) := by decide +kernel
theorem dX10_copySentence_75 : decode cX10_copySentence 75 = .ok (.getfield 25, 3) := by decide +kernel
theorem dX10_copySentence_78 : decode cX10_copySentence 78 = .ok (.iload_n 2, 1) := by decide +kernel
theorem dX10_copySentence_79 : decode cX10_copySentence 79 = .ok (.iaload, 1) := by decide +kernel
theorem dX10_copySentence_80 : decode cX10_copySentence 80 = .ok (.iastore, 1) := by decide +kernel
theorem dX10_copySentence_81 : decode cX10_copySentence 81 = .ok (.iinc 2 1, 3) := by decide +kernel
theorem dX10_copySentence_84 : decode cX10_copySentence 84 = .ok (.goto (-23), 3) := by decide +kernel
theorem dX10_copySentence_87 : decode cX10_copySentence 87 = .ok (.aload_n 0, 1) := by decide +kernel
theorem dX10_copySentence_88 : decode cX10_copySentence 88 = .ok (.getfield 152, 3) := by decide +kernel
theorem dX10_copySentence_91 : decode cX10_copySentence 91 = .ok (.ireturn, 1) := by decide +kernel
theorem dX10_type_0 : decode cX10_type 0 = .ok (.aload_n 0, 1) := by decide +kernel
theorem dX10_type_1 : decode cX10_type 1 = .ok (.iload_n 1, 1) := by decide +kernel
theorem dX10_type_2 : decode cX10_type 2 = .ok (.iconst 0, 1) := by decide +kernel
theorem dX10_type_3 : decode cX10_type 3 = .ok (.bipush 127, 2) := by decide +kernel
theorem dX10_type_5 : decode cX10_type 5 = .ok (.invokestatic 42, 3) := by decide +kernel
theorem dX10_type_8 : decode cX10_type 8 = .ok (.ifCond .ne 7, 3) := by decide +kernel
theorem dX10_type_11 : decode cX10_type 11 = .ok (.iconst 1, 1) := by decide +kernel
theorem dX10_type_12 : decode cX10_type 12 = .ok (.goto 18, 3) := by decide +kernel
theorem dX10_type_15 : decode cX10_type 15 = .ok (.aload_n 0, 1) := by decide +kernel
theorem dX10_type_16 : decode cX10_type 16 = .ok (.getfield 152, 3) := by decide +kernel
theorem dX10_type_19 : decode cX10_type 19 = .ok (.sipush 600, 3) := by decide +kernel
theorem dX10_type_22 : decode cX10_type 22 = .ok (.if_icmp .ne 7, 3) := by decide +kernel
theorem dX10_type_25 : decode cX10_type 25 = .ok (.iconst 2, 1) := by decide +kernel
theorem dX10_type_26 : decode cX10_type 26 = .ok (.goto 4, 3) := by decide +kernel
theorem dX10_type_29 : decode cX10_type 29 = .ok (.iconst 0, 1) := by decide +kernel
theorem dX10_type_30 : decode cX10_type 30 = .ok (.invokevirtual 38, 3) := by decide +kernel
theorem dX10_type_33 : decode cX10_type 33 = .ok (.ifCond .eq 5, 3) := by decide +kernel
theorem dX10_type_36 : decode cX10_type 36 = .ok (.iconst 0, 1) := by decide +kernel
theorem dX10_type_37 : decode cX10_type 37 = .ok (.ireturn, 1) := by decide +kernel
theorem dX10_type_38 : decode cX10_type 38 = .ok (.aload_n 0, 1) := by decide +kernel
theorem dX10_type_39 : decode cX10_type 39 = .ok (.getfield 16, 3) := by decide +kernel
theorem dX10_type_42 : decode cX10_type 42 = .ok (.aload_n 0, 1) := by decide +kernel
theorem dX10_type_43 : decode cX10_type 43 = .ok (.getfield 152, 3) := by decide +kernel
theorem dX10_type_46 : decode cX10_type 46 = .ok (.iload_n 1, 1) := by decide +kernel
theorem dX10_type_47 : decode cX10_type 47 = .ok (.iastore, 1) := by decide +kernel
theorem dX10_type_48 : decode cX10_type 48 = .ok (.aload_n 0, 1) := by decide +kernel
theorem dX10_type_49 : decode cX10_type 49 = .ok (.dup, 1) := by decide +kernel
theorem dX10_type_50 : decode cX10_type 50 = .ok (.getfield 152, 3) := by decide +kernel
theorem dX10_type_53 : decode cX10_type 53 = .ok (.iconst 1, 1) := by decide +kernel
theorem dX10_type_54 : decode cX10_type 54 = .ok (.iadd, 1) := by decide +kernel
theorem dX10_type_55 : decode cX10_type 55 = .ok (.putfield 152, 3) := by decide +kernel
theorem dX10_type_58 : decode cX10_type 58 = .ok (.aload_n 0, 1) := by decide +kernel
theorem dX10_type_59 : decode cX10_type 59 = .ok (.getfield 152, 3) := by decide +kernel
theorem dX10_type_62 : decode cX10_type 62 = .ok (.ireturn, 1) := by decide +kernel
theorem dX10_cut_0 : decode cX10_cut 0 = .ok (.aload_n 0, 1) := by decide +kernel
theorem dX10_cut_1 : decode cX10_cut 1 = .ok (.iload_n 1, 1) := by decide +kernel
theorem dX10_cut_2 : decode cX10_cut 2 = .ok (.iconst 1, 1) := by decide +kernel
theorem dX10_cut_3 : decode cX10_cut 3 = .ok (.sipush 600, 3) := by decide +kernel
theorem dX10_cut_6 : decode cX10_cut 6 = .ok (.invokestatic 42, 3) := by decide +kernel
theorem dX10_cut_9 : decode cX10_cut 9 = .ok (.ifCond .ne 7, 3) := by decide +kernel
theorem dX10_cut_12 : decode cX10_cut 12 = .ok (.iconst 1, 1) := by decide +kernel
theorem dX10_cut_13 : decode cX10_cut 13 = .ok (.goto 16, 3) := by decide +kernel
theorem dX10_cut_16 : decode cX10_cut 16 = .ok (.iload_n 1, 1) := by decide +kernel
theorem dX10_cut_17 : decode cX10_cut 17 = .ok (.aload_n 0, 1) := by decide +kernel
theorem dX10_cut_18 : decode cX10_cut 18 = .ok (.getfield 152, 3) := by decide +kernel
theorem dX10_cut_21 : decode cX10_cut 21 = .ok (.if_icmp .le 7, 3) := by decide +kernel
theorem dX10_cut_24 : decode cX10_cut 24 = .ok (.iconst 2, 1) := by decide +kernel
theorem dX10_cut_25 : decode cX10_cut 25 = .ok (.goto 4, 3) := by decide +kernel
theorem dX10_cut_28 : decode cX10_cut 28 = .ok (.iconst 0, 1) := by decide +kernel
theorem dX10_cut_29 : decode cX10_cut 29 = .ok (.invokevirtual 38, 3) := by decide +kernel
theorem dX10_cut_32 : decode cX10_cut 32 = .ok (.ifCond .eq 5, 3) := by decide +kernel
theorem dX10_cut_35 : decode cX10_cut 35 = .ok (.iconst 0, 1) := by decide +kernel
theorem dX10_cut_36 : decode cX10_cut 36 = .ok (.ireturn, 1) := by decide +kernel
theorem dX10_cut_37 : decode cX10_cut 37 = .ok (.aload_n 0, 1) := by decide +kernel
theorem dX10_cut_38 : decode cX10_cut 38 = .ok (.dup, 1) := by decide +kernel
theorem dX10_cut_39 : decode cX10_cut 39 = .ok (.getfield 152, 3) := by decide +kernel
theorem dX10_cut_42 : decode cX10_cut 42 = .ok (.iload_n 1, 1) := by decide +kernel
theorem dX10_cut_43 : decode cX10_cut 43 = .ok (.isub, 1) := by decide +kernel
theorem dX10_cut_44 : decode cX10_cut 44 = .ok (.putfield 152, 3) := by decide +kernel
theorem dX10_cut_47 : decode cX10_cut 47 = .ok (.aload_n 0, 1) := by decide +kernel
theorem dX10_cut_48 : decode cX10_cut 48 = .ok (.getfield 152, 3) := by decide +kernel
theorem dX10_cut_51 : decode cX10_cut 51 = .ok (.ireturn, 1) := by decide +kernel
theorem dX10_clearText_0 : decode cX10_clearText 0 = .ok (.aload_n 0, 1) := by decide +kernel
theorem dX10_clearText_1 : decode cX10_clearText 1 = .ok (.iconst 0, 1) := by decide +kernel
theorem dX10_clearText_2 : decode cX10_clearText 2 = .ok (.putfield 31, 3) := by decide +kernel
theorem dX10_clearText_5 : decode cX10_clearText 5 = .ok (.aload_n 0, 1) := by decide +kernel
theorem dX10_clearText_6 : decode cX10_clearText 6 = .ok (.getfield 152, 3) := by decide +kernel
theorem dX10_clearText_9 : decode cX10_clearText 9 = .ok (.istore_n 1, 1) := by decide +kernel
theorem dX10_clearText_10 : decode cX10_clearText 10 = .ok (.aload_n 0, 1) := by decide +kernel
theorem dX10_clearText_11 : decode cX10_clearText 11 = .ok (.iconst 0, 1) := by decide +kernel
theorem dX10_clearText_12 : decode cX10_clearText 12 = .ok (.putfield 152, 3) := by decide +kernel
theorem dX10_clearText_15 : decode cX10_clearText 15 = .ok (.iload_n 1, 1) := by decide +kernel
theorem dX10_clearText_16 : decode cX10_clearText 16 = .ok (.ireturn, 1) := by decide +kernel
theorem dX10_next_0 : decode cX10_next 0 = .ok (.aload_n 0, 1) := by decide +kernel
theorem dX10_next_1 : decode cX10_next 1 = .ok (.aload_n 0, 1) := by decide +kernel
theorem dX10_next_2 : decode cX10_next 2 = .ok (.getfield 202, 3) := by decide +kernel
theorem dX10_next_5 : decode cX10_next 5 = .ok (.putfield 205, 3) := by decide +kernel
theorem dX10_next_8 : decode cX10_next 8 = .ok (.aload_n 0, 1) := by decide +kernel
theorem dX10_next_9 : decode cX10_next 9 = .ok (.getfield 205, 3) := by decide +kernel
theorem dX10_next_12 : decode cX10_next 12 = .ok (.aload_n 0, 1) := by decide +kernel
theorem dX10_next_13 : decode cX10_next 13 = .ok (.getfield 152, 3) := by decide +kernel
theorem dX10_next_16 : decode cX10_next 16 = .ok (.if_icmp .ge 30, 3) := by decide +kernel
theorem dX10_next_19 : decode cX10_next 19 = .ok (.aload_n 0, 1) := by decide +kernel
theorem dX10_next_20 : decode cX10_next 20 = .ok (.getfield 16, 3) := by decide +kernel
theorem dX10_next_23 : decode cX10_next 23 = .ok (.aload_n 0, 1) := by decide +kernel
theorem dX10_next_24 : decode cX10_next 24 = .ok (.getfield 205, 3) := by decide +kernel
theorem dX10_next_27 : decode cX10_next 27 = .ok (.iaload, 1) := by decide +kernel
theorem dX10_next_28 : decode cX10_next 28 = .ok (.bipush 32, 2) := by decide +kernel
theorem dX10_next_30 : decode cX10_next 30 = .ok (.if_icmp .ne 16, 3) := by decide +kernel
theorem dX10_next_33 : decode cX10_next 33 = .ok (.aload_n 0, 1) := by decide +kernel
theorem dX10_next_34 : decode cX10_next 34 = .ok (.dup, 1) := by decide +kernel
theorem dX10_next_35 : decode cX10_next 35 = .ok (.getfield 205, 3) := by decide +kernel
theorem dX10_next_38 : decode cX10_next 38 = .ok (.iconst 1, 1) := by decide +kernel
theorem dX10_next_39 : decode cX10_next 39 = .ok (.iadd, 1) := by decide +kernel
theorem dX10_next_40 : decode cX10_next 40 = .ok (.putfield 205, 3) := by decide +kernel
theorem dX10_next_43 : decode cX10_next 43 = .ok (.goto (-35), 3) := by decide +kernel
theorem dX10_next_46 : decode cX10_next 46 = .ok (.aload_n 0, 1) := by decide +kernel
theorem dX10_next_47 : decode cX10_next 47 = .ok (.aload_n 0, 1) := by decide +kernel
theorem dX10_next_48 : decode cX10_next 48 = .ok (.getfield 205, 3) := by decide +kernel
theorem dX10_next_51 : decode cX10_next 51 = .ok (.putfield 202, 3) := by decide +kernel
theorem dX10_next_54 : decode cX10_next 54 = .ok (.aload_n 0, 1) := by decide +kernel
theorem dX10_next_55 : decode cX10_next 55 = .ok (.getfield 202, 3) := by decide +kernel
theorem dX10_next_58 : decode cX10_next 58 = .ok (.aload_n 0, 1) := by decide +kernel
theorem dX10_next_59 : decode cX10_next 59 = .ok (.getfield 152, 3) := by decide +kernel
theorem dX10_next_62 : decode cX10_next 62 = .ok (.if_icmp .ge 30, 3) := by decide +kernel
theorem dX10_next_65 : decode cX10_next 65 = .ok (.aload_n 0, 1) := by decide +kernel
theorem dX10_next_66 : decode cX10_next 66 = .ok (.getfield 16, 3) := by decide +kernel
theorem dX10_next_69 : decode cX10_next 69 = .ok (.aload_n 0, 1) := by decide +kernel
theorem dX10_next_70 : decode cX10_next 70 = .ok (.getfield 202, 3) := by decide +kernel
theorem dX10_next_73 : decode cX10_next 73 = .ok (.iaload, 1) := by decide +kernel
theorem dX10_next_74 : decode cX10_next 74 = .ok (.bipush 32, 2) := by decide +kernel
theorem dX10_next_76 : decode cX10_next 76 = .ok (.if_icmp .eq 16, 3) := by decide +kernel
theorem dX10_next_79 : decode cX10_next 79 = .ok (.aload_n 0, 1) := by decide +kernel
theorem dX10_next_80 : decode cX10_next 80 = .ok (.dup, 1) := by decide +kernel
theorem dX10_next_81 : decode cX10_next 81 = .ok (.getfield 202, 3) := by decide +kernel
theorem dX10_next_84 : decode cX10_next 84 = .ok (.iconst 1, 1) := by decide +kernel
theorem dX10_next_85 : decode cX10_next 85 = .ok (.iadd, 1) := by decide +kernel
theorem dX10_next_86 : decode cX10_next 86 = .ok (.putfield 202, 3) := by decide +kernel
theorem dX10_next_89 : decode cX10_next 89 = .ok (.goto (-35), 3) := by decide +kernel
theorem dX10_next_92 : decode cX10_next 92 = .ok (.return_, 1) := by decide +kernel
theorem dX10_takesWord_0 : decode cX10_takesWord 0 = .ok (.aload_n 0, 1) := by decide +kernel
theorem dX10_takesWord_1 : decode cX10_takesWord 1 = .ok (.iload_n 1, 1) := by decide +kernel
theorem dX10_takesWord_2 : decode cX10_takesWord 2 = .ok (.invokevirtual 176, 3) := by decide +kernel
theorem dX10_takesWord_5 : decode cX10_takesWord 5 = .ok (.istore_n 2, 1) := by decide +kernel
theorem dX10_takesWord_6 : decode cX10_takesWord 6 = .ok (.iconst 0, 1) := by decide +kernel
theorem dX10_takesWord_7 : decode cX10_takesWord 7 = .ok (.istore_n 3, 1) := by decide +kernel
theorem dX10_takesWord_8 : decode cX10_takesWord 8 = .ok (.aload_n 0, 1) := by decide +kernel
theorem dX10_takesWord_9 : decode cX10_takesWord 9 = .ok (.getfield 205, 3) := by decide +kernel
theorem dX10_takesWord_12 : decode cX10_takesWord 12 = .ok (.iload_n 3, 1) := by decide +kernel
theorem dX10_takesWord_13 : decode cX10_takesWord 13 = .ok (.iadd, 1) := by decide +kernel
theorem dX10_takesWord_14 : decode cX10_takesWord 14 = .ok (.aload_n 0, 1) := by decide +kernel
theorem dX10_takesWord_15 : decode cX10_takesWord 15 = .ok (.getfield 202, 3) := by decide +kernel
theorem dX10_takesWord_18 : decode cX10_takesWord 18 = .ok (.if_icmp .ge 31, 3) := by decide +kernel
theorem dX10_takesWord_21 : decode cX10_takesWord 21 = .ok (.aload_n 0, 1) := by decide +kernel
theorem dX10_takesWord_22 : decode cX10_takesWord 22 = .ok (.getfield 16, 3) := by decide +kernel
theorem dX10_takesWord_25 : decode cX10_takesWord 25 = .ok (.aload_n 0, 1) := by decide +kernel
theorem dX10_takesWord_26 : decode cX10_takesWord 26 = .ok (.getfield 205, 3) := by decide +kernel
theorem dX10_takesWord_29 : decode cX10_takesWord 29 = .ok (.iload_n 3, 1) := by decide +kernel
theorem dX10_takesWord_30 : decode cX10_takesWord 30 = .ok (.iadd, 1) := by decide +kernel
theorem dX10_takesWord_31 : decode cX10_takesWord 31 = .ok (.iaload, 1) := by decide +kernel
theorem dX10_takesWord_32 : decode cX10_takesWord 32 = .ok (.aload_n 0, 1) := by decide +kernel
theorem dX10_takesWord_33 : decode cX10_takesWord 33 = .ok (.getfield 22, 3) := by decide +kernel
theorem dX10_takesWord_36 : decode cX10_takesWord 36 = .ok (.iload_n 2, 1) := by decide +kernel
theorem dX10_takesWord_37 : decode cX10_takesWord 37 = .ok (.iload_n 3, 1) := by decide +kernel
theorem dX10_takesWord_38 : decode cX10_takesWord 38 = .ok (.iadd, 1) := by decide +kernel
theorem dX10_takesWord_39 : decode cX10_takesWord 39 = .ok (.iaload, 1) := by decide +kernel
theorem dX10_takesWord_40 : decode cX10_takesWord 40 = .ok (.if_icmp .ne 9, 3) := by decide +kernel
theorem dX10_takesWord_43 : decode cX10_takesWord 43 = .ok (.iinc 3 1, 3) := by decide +kernel
theorem dX10_takesWord_46 : decode cX10_takesWord 46 = .ok (.goto (-38), 3) := by decide +kernel
theorem dX10_takesWord_49 : decode cX10_takesWord 49 = .ok (.aload_n 0, 1) := by decide +kernel
theorem dX10_takesWord_50 : decode cX10_takesWord 50 = .ok (.getfield 205, 3) := by decide +kernel
theorem dX10_takesWord_53 : decode cX10_takesWord 53 = .ok (.iload_n 3, 1) := by decide +kernel
theorem dX10_takesWord_54 : decode cX10_takesWord 54 = .ok (.iadd, 1) := by decide +kernel
theorem dX10_takesWord_55 : decode cX10_takesWord 55 = .ok (.aload_n 0, 1) := by decide +kernel
theorem dX10_takesWord_56 : decode cX10_takesWord 56 = .ok (.getfield 202, 3) := by decide +kernel
theorem dX10_takesWord_59 : decode cX10_takesWord 59 = .ok (.if_icmp .ne 24, 3) := by decide +kernel
theorem dX10_takesWord_62 : decode cX10_takesWord 62 = .ok (.iload_n 3, 1) := by decide +kernel
theorem dX10_takesWord_63 : decode cX10_takesWord 63 = .ok (.ifCond .le 20, 3) := by decide +kernel
theorem dX10_takesWord_66 : decode cX10_takesWord 66 = .ok (.aload_n 0, 1) := by decide +kernel
theorem dX10_takesWord_67 : decode cX10_takesWord 67 = .ok (.getfield 22, 3) := by decide +kernel
theorem dX10_takesWord_70 : decode cX10_takesWord 70 = .ok (.iload_n 2, 1) := by decide +kernel
theorem dX10_takesWord_71 : decode cX10_takesWord 71 = .ok (.iload_n 3, 1) := by decide +kernel
theorem dX10_takesWord_72 : decode cX10_takesWord 72 = .ok (.iadd, 1) := by decide +kernel
theorem dX10_takesWord_73 : decode cX10_takesWord 73 = .ok (.iaload, 1) := by decide +kernel
theorem dX10_takesWord_74 : decode cX10_takesWord 74 = .ok (.bipush 32, 2) := by decide +kernel
theorem dX10_takesWord_76 : decode cX10_takesWord 76 = .ok (.if_icmp .ne 7, 3) := by decide +kernel
theorem dX10_takesWord_79 : decode cX10_takesWord 79 = .ok (.iconst 1, 1) := by decide +kernel
theorem dX10_takesWord_80 : decode cX10_takesWord 80 = .ok (.goto 4, 3) := by decide +kernel
theorem dX10_takesWord_83 : decode cX10_takesWord 83 = .ok (.iconst 0, 1) := by decide +kernel
theorem dX10_takesWord_84 : decode cX10_takesWord 84 = .ok (.istore 4, 2) := by decide +kernel
theorem dX10_takesWord_86 : decode cX10_takesWord 86 = .ok (.iload 4, 2) := by decide +kernel
theorem dX10_takesWord_88 : decode cX10_takesWord 88 = .ok (.ifCond .eq 7, 3) := by decide +kernel
theorem dX10_takesWord_91 : decode cX10_takesWord 91 = .ok (.aload_n 0, 1) := by decide +kernel
theorem dX10_takesWord_92 : decode cX10_takesWord 92 = .ok (.invokevirtual 208, 3) := by decide +kernel
theorem dX10_takesWord_95 : decode cX10_takesWord 95 = .ok (.iload 4, 2) := by decide +kernel
theorem dX10_takesWord_97 : decode cX10_takesWord 97 = .ok (.ireturn, 1) := by decide +kernel
theorem dX10_numberHere_0 : decode cX10_numberHere 0 = .ok (.aload_n 0, 1) := by decide +kernel
theorem dX10_numberHere_1 : decode cX10_numberHere 1 = .ok (.getfield 202, 3) := by decide +kernel
theorem dX10_numberHere_4 : decode cX10_numberHere 4 = .ok (.aload_n 0, 1) := by decide +kernel
theorem dX10_numberHere_5 : decode cX10_numberHere 5 = .ok (.getfield 205, 3) := by decide +kernel
theorem dX10_numberHere_8 : decode cX10_numberHere 8 = .ok (.isub, 1) := by decide +kernel
theorem dX10_numberHere_9 : decode cX10_numberHere 9 = .ok (.iconst 1, 1) := by decide +kernel
theorem dX10_numberHere_10 : decode cX10_numberHere 10 = .ok (.iconst 3, 1) := by decide +kernel
theorem dX10_numberHere_11 : decode cX10_numberHere 11 = .ok (.invokestatic 42, 3) := by decide +kernel
theorem dX10_numberHere_14 : decode cX10_numberHere 14 = .ok (.ifCond .eq 7, 3) := by decide +kernel
theorem dX10_numberHere_17 : decode cX10_numberHere 17 = .ok (.iconst 0, 1) := by decide +kernel
theorem dX10_numberHere_18 : decode cX10_numberHere 18 = .ok (.goto 4, 3) := by decide +kernel
theorem dX10_numberHere_21 : decode cX10_numberHere 21 = .ok (.iconst (-1), 1) := by decide +kernel
theorem dX10_numberHere_22 : decode cX10_numberHere 22 = .ok (.istore_n 1, 1) := by decide +kernel
theorem dX10_numberHere_23 : decode cX10_numberHere 23 = .ok (.aload_n 0, 1) := by decide +kernel
theorem dX10_numberHere_24 : decode cX10_numberHere 24 = .ok (.getfield 205, 3) := by decide +kernel
theorem dX10_numberHere_27 : decode cX10_numberHere 27 = .ok (.istore_n 2, 1) := by decide +kernel
theorem dX10_numberHere_28 : decode cX10_numberHere 28 = .ok (.iload_n 2, 1) := by decide +kernel
theorem dX10_numberHere_29 : decode cX10_numberHere 29 = .ok (.aload_n 0, 1) := by decide +kernel
theorem dX10_numberHere_30 : decode cX10_numberHere 30 = .ok (.getfield 202, 3) := by decide +kernel
theorem dX10_numberHere_33 : decode cX10_numberHere 33 = .ok (.if_icmp .ge 48, 3) := by decide +kernel
theorem dX10_numberHere_36 : decode cX10_numberHere 36 = .ok (.iload_n 1, 1) := by decide +kernel
theorem dX10_numberHere_37 : decode cX10_numberHere 37 = .ok (.ifCond .lt 44, 3) := by decide +kernel
theorem dX10_numberHere_40 : decode cX10_numberHere 40 = .ok (.aload_n 0, 1) := by decide +kernel
theorem dX10_numberHere_41 : decode cX10_numberHere 41 = .ok (.getfield 16, 3) := by decide +kernel
theorem dX10_numberHere_44 : decode cX10_numberHere 44 = .ok (.iload_n 2, 1) := by decide +kernel
theorem dX10_numberHere_45 : decode cX10_numberHere 45 = .ok (.iaload, 1) := by decide +kernel
theorem dX10_numberHere_46 : decode cX10_numberHere 46 = .ok (.bipush 48, 2) := by decide +kernel
theorem dX10_numberHere_48 : decode cX10_numberHere 48 = .ok (.bipush 57, 2) := by decide +kernel
theorem dX10_numberHere_50 : decode cX10_numberHere 50 = .ok (.invokestatic 42, 3) := by decide +kernel
theorem dX10_numberHere_53 : decode cX10_numberHere 53 = .ok (.ifCond .eq 20, 3) := by decide +kernel
theorem dX10_numberHere_56 : decode cX10_numberHere 56 = .ok (.bipush 10, 2) := by decide +kernel
theorem dX10_numberHere_58 : decode cX10_numberHere 58 = .ok (.iload_n 1, 1) := by decide +kernel
theorem dX10_numberHere_59 : decode cX10_numberHere 59 = .ok (.imul, 1) := by decide +kernel
theorem dX10_numberHere_60 : decode cX10_numberHere 60 = .ok (.aload_n 0, 1) := by decide +kernel
theorem dX10_numberHere_61 : decode cX10_numberHere 61 = .ok (.getfield 16, 3) := by decide +kernel
theorem dX10_numberHere_64 : decode cX10_numberHere 64 = .ok (.iload_n 2, 1) := by decide +kernel
theorem dX10_numberHere_65 : decode cX10_numberHere 65 = .ok (.iaload, 1) := by decide +kernel
theorem dX10_numberHere_66 : decode cX10_numberHere 66 = .ok (.iadd, 1) := by decide +kernel
theorem dX10_numberHere_67 : decode cX10_numberHere 67 = .ok (.bipush 48, 2) := by decide +kernel
theorem dX10_numberHere_69 : decode cX10_numberHere 69 = .ok (.isub, 1) := by decide +kernel
theorem dX10_numberHere_70 : decode cX10_numberHere 70 = .ok (.goto 4, 3) := by decide +kernel
theorem dX10_numberHere_73 : decode cX10_numberHere 73 = .ok (.iconst (-1), 1) := by decide +kernel
theorem dX10_numberHere_74 : decode cX10_numberHere 74 = .ok (.istore_n 1, 1) := by decide +kernel
theorem dX10_numberHere_75 : decode cX10_numberHere 75 = .ok (.iinc 2 1, 3) := by decide +kernel
theorem dX10_numberHere_78 : decode cX10_numberHere 78 = .ok (.goto (-50), 3) := by decide +kernel
theorem dX10_numberHere_81 : decode cX10_numberHere 81 = .ok (.iload_n 1, 1) := by decide +kernel
theorem dX10_numberHere_82 : decode cX10_numberHere 82 = .ok (.ireturn, 1) := by decide +kernel
theorem dX10_takesNumber_0 : decode cX10_takesNumber 0 = .ok (.aload_n 0, 1) := by decide +kernel
theorem dX10_takesNumber_1 : decode cX10_takesNumber 1 = .ok (.aload_n 0, 1) := by decide +kernel
theorem dX10_takesNumber_2 : decode cX10_takesNumber 2 = .ok (.invokevirtual 211, 3) := by decide +kernel
theorem dX10_takesNumber_5 : decode cX10_takesNumber 5 = .ok (.putfield 214, 3) := by decide +kernel
theorem dX10_takesNumber_8 : decode cX10_takesNumber 8 = .ok (.aload_n 0, 1) := by decide +kernel
theorem dX10_takesNumber_9 : decode cX10_takesNumber 9 = .ok (.getfield 214, 3) := by decide +kernel
theorem dX10_takesNumber_12 : decode cX10_takesNumber 12 = .ok (.iload_n 1, 1) := by decide +kernel
theorem dX10_takesNumber_13 : decode cX10_takesNumber 13 = .ok (.iload_n 2, 1) := by decide +kernel
theorem dX10_takesNumber_14 : decode cX10_takesNumber 14 = .ok (.invokestatic 42, 3) := by decide +kernel
theorem dX10_takesNumber_17 : decode cX10_takesNumber 17 = .ok (.istore_n 3, 1) := by decide +kernel
theorem dX10_takesNumber_18 : decode cX10_takesNumber 18 = .ok (.iload_n 3, 1) := by decide +kernel
theorem dX10_takesNumber_19 : decode cX10_takesNumber 19 = .ok (.ifCond .eq 7, 3) := by decide +kernel
theorem dX10_takesNumber_22 : decode cX10_takesNumber 22 = .ok (.aload_n 0, 1) := by decide +kernel
theorem dX10_takesNumber_23 : decode cX10_takesNumber 23 = .ok (.invokevirtual 208, 3) := by decide +kernel
theorem dX10_takesNumber_26 : decode cX10_takesNumber 26 = .ok (.iload_n 3, 1) := by decide +kernel
theorem dX10_takesNumber_27 : decode cX10_takesNumber 27 = .ok (.ireturn, 1) := by decide +kernel
theorem dX10_readsKey_0 : decode cX10_readsKey 0 = .ok (.aload_n 0, 1) := by decide +kernel
theorem dX10_readsKey_1 : decode cX10_readsKey 1 = .ok (.iconst 1, 1) := by decide +kernel
theorem dX10_readsKey_2 : decode cX10_readsKey 2 = .ok (.putfield 217, 3) := by decide +kernel
theorem dX10_readsKey_5 : decode cX10_readsKey 5 = .ok (.aload_n 0, 1) := by decide +kernel
theorem dX10_readsKey_6 : decode cX10_readsKey 6 = .ok (.getfield 28, 3) := by decide +kernel
theorem dX10_readsKey_9 : decode cX10_readsKey 9 = .ok (.iconst 0, 1) := by decide +kernel
theorem dX10_readsKey_10 : decode cX10_readsKey 10 = .ok (.iconst 0, 1) := by decide +kernel
theorem dX10_readsKey_11 : decode cX10_readsKey 11 = .ok (.iastore, 1) := by decide +kernel
theorem dX10_readsKey_12 : decode cX10_readsKey 12 = .ok (.aload_n 0, 1) := by decide +kernel
theorem dX10_readsKey_13 : decode cX10_readsKey 13 = .ok (.iconst 4, 1) := by decide +kernel
theorem dX10_readsKey_14 : decode cX10_readsKey 14 = .ok (.invokevirtual 221, 3) := by decide +kernel
theorem dX10_readsKey_17 : decode cX10_readsKey 17 = .ok (.ifCond .eq 5, 3) := by decide +kernel
theorem dX10_readsKey_20 : decode cX10_readsKey 20 = .ok (.iconst 1, 1) := by decide +kernel
theorem dX10_readsKey_21 : decode cX10_readsKey 21 = .ok (.ireturn, 1) := by decide +kernel
theorem dX10_readsKey_22 : decode cX10_readsKey 22 = .ok (.aload_n 0, 1) := by decide +kernel
theorem dX10_readsKey_23 : decode cX10_readsKey 23 = .ok (.iconst 1, 1) := by decide +kernel
theorem dX10_readsKey_24 : decode cX10_readsKey 24 = .ok (.bipush 7, 2) := by decide +kernel
theorem dX10_readsKey_26 : decode cX10_readsKey 26 = .ok (.invokevirtual 224, 3) := by decide +kernel
theorem dX10_readsKey_29 : decode cX10_readsKey 29 = .ok (.ifCond .ne 5, 3) := by decide +kernel
theorem dX10_readsKey_32 : decode cX10_readsKey 32 = .ok (.iconst 0, 1) := by decide +kernel
theorem dX10_readsKey_33 : decode cX10_readsKey 33 = .ok (.ireturn, 1) := by decide +kernel
theorem dX10_readsKey_34 : decode cX10_readsKey 34 = .ok (.aload_n 0, 1) := by decide +kernel
theorem dX10_readsKey_35 : decode cX10_readsKey 35 = .ok (.getfield 28, 3) := by decide +kernel
theorem dX10_readsKey_38 : decode cX10_readsKey 38 = .ok (.iconst 0, 1) := by decide +kernel
theorem dX10_readsKey_39 : decode cX10_readsKey 39 = .ok (.aload_n 0, 1) := by decide +kernel
theorem dX10_readsKey_40 : decode cX10_readsKey 40 = .ok (.getfield 214, 3) := by decide +kernel
theorem dX10_readsKey_43 : decode cX10_readsKey 43 = .ok (.iastore, 1) := by decide +kernel
theorem dX10_readsKey_44 : decode cX10_readsKey 44 = .ok (.aload_n 0, 1) := by decide +kernel
theorem dX10_readsKey_45 : decode cX10_readsKey 45 = .ok (.iconst 5, 1) := by decide +kernel
theorem dX10_readsKey_46 : decode cX10_readsKey 46 = .ok (.invokevirtual 221, 3) := by decide +kernel
theorem dX10_readsKey_49 : decode cX10_readsKey 49 = .ok (.ifCond .eq 5, 3) := by decide +kernel
theorem dX10_readsKey_52 : decode cX10_readsKey 52 = .ok (.iconst 1, 1) := by decide +kernel
theorem dX10_readsKey_53 : decode cX10_readsKey 53 = .ok (.ireturn, 1) := by decide +kernel
theorem dX10_readsKey_54 : decode cX10_readsKey 54 = .ok (.aload_n 0, 1) := by decide +kernel
theorem dX10_readsKey_55 : decode cX10_readsKey 55 = .ok (.getfield 28, 3) := by decide +kernel
theorem dX10_readsKey_58 : decode cX10_readsKey 58 = .ok (.iconst 0, 1) := by decide +kernel
theorem dX10_readsKey_59 : decode cX10_readsKey 59 = .ok (.aload_n 0, 1) := by decide +kernel
theorem dX10_readsKey_60 : decode cX10_readsKey 60 = .ok (.getfield 214, 3) := by decide +kernel
theorem dX10_readsKey_63 : decode cX10_readsKey 63 = .ok (.ineg, 1) := by decide +kernel
theorem dX10_readsKey_64 : decode cX10_readsKey 64 = .ok (.iastore, 1) := by decide +kernel
theorem dX10_readsKey_65 : decode cX10_readsKey 65 = .ok (.aload_n 0, 1) := by decide +kernel
theorem dX10_readsKey_66 : decode cX10_readsKey 66 = .ok (.bipush 6, 2) := by decide +kernel
theorem dX10_readsKey_68 : decode cX10_readsKey 68 = .ok (.invokevirtual 221, 3) := by decide +kernel
theorem dX10_readsKey_71 : decode cX10_readsKey 71 = .ok (.ireturn, 1) := by decide +kernel
theorem dX10_readsTime_0 : decode cX10_readsTime 0 = .ok (.aload_n 0, 1) := by decide +kernel
theorem dX10_readsTime_1 : decode cX10_readsTime 1 = .ok (.iconst 1, 1) := by decide +kernel
theorem dX10_readsTime_2 : decode cX10_readsTime 2 = .ok (.putfield 227, 3) := by decide +kernel
theorem dX10_readsTime_5 : decode cX10_readsTime 5 = .ok (.aload_n 0, 1) := by decide +kernel
theorem dX10_readsTime_6 : decode cX10_readsTime 6 = .ok (.iconst 1, 1) := by decide +kernel
theorem dX10_readsTime_7 : decode cX10_readsTime 7 = .ok (.bipush 12, 2) := by decide +kernel
theorem dX10_readsTime_9 : decode cX10_readsTime 9 = .ok (.invokevirtual 224, 3) := by decide +kernel
theorem dX10_readsTime_12 : decode cX10_readsTime 12 = .ok (.ifCond .ne 5, 3) := by decide +kernel
theorem dX10_readsTime_15 : decode cX10_readsTime 15 = .ok (.iconst 0, 1) := by decide +kernel
theorem dX10_readsTime_16 : decode cX10_readsTime 16 = .ok (.ireturn, 1) := by decide +kernel
theorem dX10_readsTime_17 : decode cX10_readsTime 17 = .ok (.aload_n 0, 1) := by decide +kernel
theorem dX10_readsTime_18 : decode cX10_readsTime 18 = .ok (.getfield 28, 3) := by decide +kernel
theorem dX10_readsTime_21 : decode cX10_readsTime 21 = .ok (.iconst 1, 1) := by decide +kernel
theorem dX10_readsTime_22 : decode cX10_readsTime 22 = .ok (.aload_n 0, 1) := by decide +kernel
theorem dX10_readsTime_23 : decode cX10_readsTime 23 = .ok (.getfield 214, 3) := by decide +kernel
theorem dX10_readsTime_26 : decode cX10_readsTime 26 = .ok (.iastore, 1) := by decide +kernel
theorem dX10_readsTime_27 : decode cX10_readsTime 27 = .ok (.aload_n 0, 1) := by decide +kernel
theorem dX10_readsTime_28 : decode cX10_readsTime 28 = .ok (.getfield 28, 3) := by decide +kernel
theorem dX10_readsTime_31 : decode cX10_readsTime 31 = .ok (.iconst 2, 1) := by decide +kernel
theorem dX10_readsTime_32 : decode cX10_readsTime 32 = .ok (.aload_n 0, 1) := by decide +kernel
theorem dX10_readsTime_33 : decode cX10_readsTime 33 = .ok (.invokevirtual 211, 3) := by decide +kernel
theorem dX10_readsTime_36 : decode cX10_readsTime 36 = .ok (.iastore, 1) := by decide +kernel
theorem dX10_readsTime_37 : decode cX10_readsTime 37 = .ok (.aload_n 0, 1) := by decide +kernel
theorem dX10_readsTime_38 : decode cX10_readsTime 38 = .ok (.getfield 28, 3) := by decide +kernel
theorem dX10_readsTime_41 : decode cX10_readsTime 41 = .ok (.iconst 2, 1) := by decide +kernel
theorem dX10_readsTime_42 : decode cX10_readsTime 42 = .ok (.iaload, 1) := by decide +kernel
theorem dX10_readsTime_43 : decode cX10_readsTime 43 = .ok (.invokestatic 71, 3) := by decide +kernel
theorem dX10_readsTime_46 : decode cX10_readsTime 46 = .ok (.ifCond .eq 17, 3) := by decide +kernel
theorem dX10_readsTime_49 : decode cX10_readsTime 49 = .ok (.aload_n 0, 1) := by decide +kernel
theorem dX10_readsTime_50 : decode cX10_readsTime 50 = .ok (.iconst 2, 1) := by decide +kernel
theorem dX10_readsTime_51 : decode cX10_readsTime 51 = .ok (.bipush 16, 2) := by decide +kernel
theorem dX10_readsTime_53 : decode cX10_readsTime 53 = .ok (.invokevirtual 224, 3) := by decide +kernel
theorem dX10_readsTime_56 : decode cX10_readsTime 56 = .ok (.ifCond .eq 7, 3) := by decide +kernel
theorem dX10_readsTime_59 : decode cX10_readsTime 59 = .ok (.iconst 1, 1) := by decide +kernel
theorem dX10_readsTime_60 : decode cX10_readsTime 60 = .ok (.goto 4, 3) := by decide +kernel
theorem dX10_readsTime_63 : decode cX10_readsTime 63 = .ok (.iconst 0, 1) := by decide +kernel
theorem dX10_readsTime_64 : decode cX10_readsTime 64 = .ok (.ireturn, 1) := by decide +kernel
theorem dX10_isLetter_0 : decode cX10_isLetter 0 = .ok (.aload_n 0, 1) := by decide +kernel
theorem dX10_isLetter_1 : decode cX10_isLetter 1 = .ok (.getfield 202, 3) := by decide +kernel
theorem dX10_isLetter_4 : decode cX10_isLetter 4 = .ok (.aload_n 0, 1) := by decide +kernel
theorem dX10_isLetter_5 : decode cX10_isLetter 5 = .ok (.getfield 205, 3) := by decide +kernel
theorem dX10_isLetter_8 : decode cX10_isLetter 8 = .ok (.isub, 1) := by decide +kernel
theorem dX10_isLetter_9 : decode cX10_isLetter 9 = .ok (.iconst 1, 1) := by decide +kernel
theorem dX10_isLetter_10 : decode cX10_isLetter 10 = .ok (.if_icmp .ne 26, 3) := by decide +kernel
theorem dX10_isLetter_13 : decode cX10_isLetter 13 = .ok (.aload_n 0, 1) := by decide +kernel
theorem dX10_isLetter_14 : decode cX10_isLetter 14 = .ok (.getfield 16, 3) := by decide +kernel
theorem dX10_isLetter_17 : decode cX10_isLetter 17 = .ok (.aload_n 0, 1) := by decide +kernel
theorem dX10_isLetter_18 : decode cX10_isLetter 18 = .ok (.getfield 205, 3) := by decide +kernel
theorem dX10_isLetter_21 : decode cX10_isLetter 21 = .ok (.iaload, 1) := by decide +kernel
theorem dX10_isLetter_22 : decode cX10_isLetter 22 = .ok (.bipush 97, 2) := by decide +kernel
theorem dX10_isLetter_24 : decode cX10_isLetter 24 = .ok (.bipush 103, 2) := by decide +kernel
theorem dX10_isLetter_26 : decode cX10_isLetter 26 = .ok (.invokestatic 42, 3) := by decide +kernel
theorem dX10_isLetter_29 : decode cX10_isLetter 29 = .ok (.ifCond .eq 7, 3) := by decide +kernel
theorem dX10_isLetter_32 : decode cX10_isLetter 32 = .ok (.iconst 1, 1) := by decide +kernel
theorem dX10_isLetter_33 : decode cX10_isLetter 33 = .ok (.goto 4, 3) := by decide +kernel
theorem dX10_isLetter_36 : decode cX10_isLetter 36 = .ok (.iconst 0, 1) := by decide +kernel
theorem dX10_isLetter_37 : decode cX10_isLetter 37 = .ok (.ireturn, 1) := by decide +kernel
theorem dX10_readsHead_0 : decode cX10_readsHead 0 = .ok (.aload_n 0, 1) := by decide +kernel
theorem dX10_readsHead_1 : decode cX10_readsHead 1 = .ok (.getfield 28, 3) := by decide +kernel
theorem dX10_readsHead_4 : decode cX10_readsHead 4 = .ok (.iload_n 1, 1) := by decide +kernel
theorem dX10_readsHead_5 : decode cX10_readsHead 5 = .ok (.iconst 1, 1) := by decide +kernel
theorem dX10_readsHead_6 : decode cX10_readsHead 6 = .ok (.iadd, 1) := by decide +kernel
theorem dX10_readsHead_7 : decode cX10_readsHead 7 = .ok (.iconst 0, 1) := by decide +kernel
theorem dX10_readsHead_8 : decode cX10_readsHead 8 = .ok (.iastore, 1) := by decide +kernel
theorem dX10_readsHead_9 : decode cX10_readsHead 9 = .ok (.aload_n 0, 1) := by decide +kernel
theorem dX10_readsHead_10 : decode cX10_readsHead 10 = .ok (.getfield 28, 3) := by decide +kernel
theorem dX10_readsHead_13 : decode cX10_readsHead 13 = .ok (.iload_n 1, 1) := by decide +kernel
theorem dX10_readsHead_14 : decode cX10_readsHead 14 = .ok (.iconst 0, 1) := by decide +kernel
theorem dX10_readsHead_15 : decode cX10_readsHead 15 = .ok (.iadd, 1) := by decide +kernel
theorem dX10_readsHead_16 : decode cX10_readsHead 16 = .ok (.iconst (-1), 1) := by decide +kernel
theorem dX10_readsHead_17 : decode cX10_readsHead 17 = .ok (.iastore, 1) := by decide +kernel
theorem dX10_readsHead_18 : decode cX10_readsHead 18 = .ok (.aload_n 0, 1) := by decide +kernel
theorem dX10_readsHead_19 : decode cX10_readsHead 19 = .ok (.invokevirtual 230, 3) := by decide +kernel
theorem dX10_readsHead_22 : decode cX10_readsHead 22 = .ok (.ifCond .ne 10, 3) := by decide +kernel
theorem dX10_readsHead_25 : decode cX10_readsHead 25 = .ok (.aload_n 0, 1) := by decide +kernel
theorem dX10_readsHead_26 : decode cX10_readsHead 26 = .ok (.bipush 10, 2) := by decide +kernel
theorem dX10_readsHead_28 : decode cX10_readsHead 28 = .ok (.invokevirtual 221, 3) := by decide +kernel
theorem dX10_readsHead_31 : decode cX10_readsHead 31 = .ok (.ireturn, 1) := by decide +kernel
theorem dX10_readsHead_32 : decode cX10_readsHead 32 = .ok (.aload_n 0, 1) := by decide +kernel
theorem dX10_readsHead_33 : decode cX10_readsHead 33 = .ok (.getfield 16, 3) := by decide +kernel
theorem dX10_readsHead_36 : decode cX10_readsHead 36 = .ok (.aload_n 0, 1) := by decide +kernel
theorem dX10_readsHead_37 : decode cX10_readsHead 37 = .ok (.getfield 205, 3) := by decide +kernel
theorem dX10_readsHead_40 : decode cX10_readsHead 40 = .ok (.iaload, 1) := by decide +kernel
theorem dX10_readsHead_41 : decode cX10_readsHead 41 = .ok (.bipush 97, 2) := by decide +kernel
theorem dX10_readsHead_43 : decode cX10_readsHead 43 = .ok (.isub, 1) := by decide +kernel
theorem dX10_readsHead_44 : decode cX10_readsHead 44 = .ok (.iconst 5, 1) := by decide +kernel
theorem dX10_readsHead_45 : decode cX10_readsHead 45 = .ok (.iadd, 1) := by decide +kernel
theorem dX10_readsHead_46 : decode cX10_readsHead 46 = .ok (.bipush 7, 2) := by decide +kernel
theorem dX10_readsHead_48 : decode cX10_readsHead 48 = .ok (.irem, 1) := by decide +kernel
theorem dX10_readsHead_49 : decode cX10_readsHead 49 = .ok (.istore_n 2, 1) := by decide +kernel
theorem dX10_readsHead_50 : decode cX10_readsHead 50 = .ok (.aload_n 0, 1) := by decide +kernel
theorem dX10_readsHead_51 : decode cX10_readsHead 51 = .ok (.invokevirtual 208, 3) := by decide +kernel
theorem dX10_readsHead_54 : decode cX10_readsHead 54 = .ok (.iconst 1, 1) := by decide +kernel
theorem dX10_readsHead_55 : decode cX10_readsHead 55 = .ok (.istore_n 3, 1) := by decide +kernel
theorem dX10_readsHead_56 : decode cX10_readsHead 56 = .ok (.iload_n 3, 1) := by decide +kernel
theorem dX10_readsHead_57 : decode cX10_readsHead 57 = .ok (.iconst 3, 1) := by decide +kernel
theorem dX10_readsHead_58 : decode cX10_readsHead 58 = .ok (.if_icmp .gt 43, 3) := by decide +kernel
theorem dX10_readsHead_61 : decode cX10_readsHead 61 = .ok (.aload_n 0, 1) := by decide +kernel
theorem dX10_readsHead_62 : decode cX10_readsHead 62 = .ok (.getfield 28, 3) := by decide +kernel
theorem dX10_readsHead_65 : decode cX10_readsHead 65 = .ok (.iload_n 1, 1) := by decide +kernel
theorem dX10_readsHead_66 : decode cX10_readsHead 66 = .ok (.iconst 1, 1) := by decide +kernel
theorem dX10_readsHead_67 : decode cX10_readsHead 67 = .ok (.iadd, 1) := by decide +kernel
theorem dX10_readsHead_68 : decode cX10_readsHead 68 = .ok (.iaload, 1) := by decide +kernel
theorem dX10_readsHead_69 : decode cX10_readsHead 69 = .ok (.ifCond .ne 32, 3) := by decide +kernel
theorem dX10_readsHead_72 : decode cX10_readsHead 72 = .ok (.aload_n 0, 1) := by decide +kernel
theorem dX10_readsHead_73 : decode cX10_readsHead 73 = .ok (.getfield 28, 3) := by decide +kernel
theorem dX10_readsHead_76 : decode cX10_readsHead 76 = .ok (.iload_n 1, 1) := by decide +kernel
theorem dX10_readsHead_77 : decode cX10_readsHead 77 = .ok (.iconst 1, 1) := by decide +kernel
theorem dX10_readsHead_78 : decode cX10_readsHead 78 = .ok (.iadd, 1) := by decide +kernel
theorem dX10_readsHead_79 : decode cX10_readsHead 79 = .ok (.aload_n 0, 1) := by decide +kernel
theorem dX10_readsHead_80 : decode cX10_readsHead 80 = .ok (.iconst 4, 1) := by decide +kernel
theorem dX10_readsHead_81 : decode cX10_readsHead 81 = .ok (.iload_n 3, 1) := by decide +kernel
theorem dX10_readsHead_82 : decode cX10_readsHead 82 = .ok (.iadd, 1) := by decide +kernel
theorem dX10_readsHead_83 : decode cX10_readsHead 83 = .ok (.invokevirtual 221, 3) := by decide +kernel
theorem dX10_readsHead_86 : decode cX10_readsHead 86 = .ok (.ifCond .eq 7, 3) := by decide +kernel
theorem dX10_readsHead_89 : decode cX10_readsHead 89 = .ok (.iload_n 3, 1) := by decide +kernel
theorem dX10_readsHead_90 : decode cX10_readsHead 90 = .ok (.goto 4, 3) := by decide +kernel
theorem dX10_readsHead_93 : decode cX10_readsHead 93 = .ok (.iconst 0, 1) := by decide +kernel
theorem dX10_readsHead_94 : decode cX10_readsHead 94 = .ok (.iastore, 1) := by decide +kernel
theorem dX10_readsHead_95 : decode cX10_readsHead 95 = .ok (.iinc 3 1, 3) := by decide +kernel
theorem dX10_readsHead_98 : decode cX10_readsHead 98 = .ok (.goto (-42), 3) := by decide +kernel
theorem dX10_readsHead_101 : decode cX10_readsHead 101 = .ok (.aload_n 0, 1) := by decide +kernel
theorem dX10_readsHead_102 : decode cX10_readsHead 102 = .ok (.iconst 0, 1) := by decide +kernel
theorem dX10_readsHead_103 : decode cX10_readsHead 103 = .ok (.bipush 8, 2) := by decide +kernel
theorem dX10_readsHead_105 : decode cX10_readsHead 105 = .ok (.invokevirtual 224, 3) := by decide +kernel
theorem dX10_readsHead_108 : decode cX10_readsHead 108 = .ok (.istore_n 3, 1) := by decide +kernel
theorem dX10_readsHead_109 : decode cX10_readsHead 109 = .ok (.aload_n 0, 1) := by decide +kernel
theorem dX10_readsHead_110 : decode cX10_readsHead 110 = .ok (.getfield 28, 3) := by decide +kernel
theorem dX10_readsHead_113 : decode cX10_readsHead 113 = .ok (.iload_n 1, 1) := by decide +kernel
theorem dX10_readsHead_114 : decode cX10_readsHead 114 = .ok (.iconst 0, 1) := by decide +kernel
theorem dX10_readsHead_115 : decode cX10_readsHead 115 = .ok (.iadd, 1) := by decide +kernel
theorem dX10_readsHead_116 : decode cX10_readsHead 116 = .ok (.bipush 7, 2) := by decide +kernel
theorem dX10_readsHead_118 : decode cX10_readsHead 118 = .ok (.aload_n 0, 1) := by decide +kernel
theorem dX10_readsHead_119 : decode cX10_readsHead 119 = .ok (.getfield 214, 3) := by decide +kernel
theorem dX10_readsHead_122 : decode cX10_readsHead 122 = .ok (.imul, 1) := by decide +kernel
theorem dX10_readsHead_123 : decode cX10_readsHead 123 = .ok (.iload_n 2, 1) := by decide +kernel
theorem dX10_readsHead_124 : decode cX10_readsHead 124 = .ok (.iadd, 1) := by decide +kernel
theorem dX10_readsHead_125 : decode cX10_readsHead 125 = .ok (.iastore, 1) := by decide +kernel
theorem dX10_readsHead_126 : decode cX10_readsHead 126 = .ok (.iload_n 3, 1) := by decide +kernel
theorem dX10_readsHead_127 : decode cX10_readsHead 127 = .ok (.ireturn, 1) := by decide +kernel
theorem dX10_readsEvent_0 : decode cX10_readsEvent 0 = .ok (.aload_n 0, 1) := by decide +kernel
theorem dX10_readsEvent_1 : decode cX10_readsEvent 1 = .ok (.iload_n 1, 1) := by decide +kernel
theorem dX10_readsEvent_2 : decode cX10_readsEvent 2 = .ok (.invokevirtual 234, 3) := by decide +kernel
theorem dX10_readsEvent_5 : decode cX10_readsEvent 5 = .ok (.ifCond .ne 5, 3) := by decide +kernel
theorem dX10_readsEvent_8 : decode cX10_readsEvent 8 = .ok (.iconst 0, 1) := by decide +kernel
theorem dX10_readsEvent_9 : decode cX10_readsEvent 9 = .ok (.ireturn, 1) := by decide +kernel
theorem dX10_readsEvent_10 : decode cX10_readsEvent 10 = .ok (.aload_n 0, 1) := by decide +kernel
theorem dX10_readsEvent_11 : decode cX10_readsEvent 11 = .ok (.bipush 11, 2) := by decide +kernel
theorem dX10_readsEvent_13 : decode cX10_readsEvent 13 = .ok (.invokevirtual 221, 3) := by decide +kernel
theorem dX10_readsEvent_16 : decode cX10_readsEvent 16 = .ok (.ifCond .eq 7, 3) := by decide +kernel
theorem dX10_readsEvent_19 : decode cX10_readsEvent 19 = .ok (.iconst 1, 1) := by decide +kernel
theorem dX10_readsEvent_20 : decode cX10_readsEvent 20 = .ok (.goto 4, 3) := by decide +kernel
theorem dX10_readsEvent_23 : decode cX10_readsEvent 23 = .ok (.iconst 0, 1) := by decide +kernel
theorem dX10_readsEvent_24 : decode cX10_readsEvent 24 = .ok (.istore_n 2, 1) := by decide +kernel
theorem dX10_readsEvent_25 : decode cX10_readsEvent 25 = .ok (.iconst 0, 1) := by decide +kernel
theorem dX10_readsEvent_26 : decode cX10_readsEvent 26 = .ok (.istore_n 3, 1) := by decide +kernel
theorem dX10_readsEvent_27 : decode cX10_readsEvent 27 = .ok (.iload_n 3, 1) := by decide +kernel
theorem dX10_readsEvent_28 : decode cX10_readsEvent 28 = .ok (.iconst 5, 1) := by decide +kernel
theorem dX10_readsEvent_29 : decode cX10_readsEvent 29 = .ok (.if_icmp .ge 20, 3) := by decide +kernel
theorem dX10_readsEvent_32 : decode cX10_readsEvent 32 = .ok (.aload_n 0, 1) := by decide +kernel
theorem dX10_readsEvent_33 : decode cX10_readsEvent 33 = .ok (.bipush 12, 2) := by decide +kernel
theorem dX10_readsEvent_35 : decode cX10_readsEvent 35 = .ok (.iload_n 3, 1) := by decide +kernel
theorem dX10_readsEvent_36 : decode cX10_readsEvent 36 = .ok (.iadd, 1) := by decide +kernel
theorem dX10_readsEvent_37 : decode cX10_readsEvent 37 = .ok (.invokevirtual 221, 3) := by decide +kernel
theorem dX10_readsEvent_40 : decode cX10_readsEvent 40 = .ok (.ifCond .ne 9, 3) := by decide +kernel
theorem dX10_readsEvent_43 : decode cX10_readsEvent 43 = .ok (.iinc 3 1, 3) := by decide +kernel
theorem dX10_readsEvent_46 : decode cX10_readsEvent 46 = .ok (.goto (-19), 3) := by decide +kernel
theorem dX10_readsEvent_49 : decode cX10_readsEvent 49 = .ok (.aload_n 0, 1) := by decide +kernel
theorem dX10_readsEvent_50 : decode cX10_readsEvent 50 = .ok (.getfield 28, 3) := by decide +kernel
theorem dX10_readsEvent_53 : decode cX10_readsEvent 53 = .ok (.iload_n 1, 1) := by decide +kernel
theorem dX10_readsEvent_54 : decode cX10_readsEvent 54 = .ok (.iconst 2, 1) := by decide +kernel
theorem dX10_readsEvent_55 : decode cX10_readsEvent 55 = .ok (.iadd, 1) := by decide +kernel
theorem dX10_readsEvent_56 : decode cX10_readsEvent 56 = .ok (.iconst 2, 1) := by decide +kernel
theorem dX10_readsEvent_57 : decode cX10_readsEvent 57 = .ok (.iload_n 3, 1) := by decide +kernel
theorem dX10_readsEvent_58 : decode cX10_readsEvent 58 = .ok (.imul, 1) := by decide +kernel
theorem dX10_readsEvent_59 : decode cX10_readsEvent 59 = .ok (.iload_n 2, 1) := by decide +kernel
theorem dX10_readsEvent_60 : decode cX10_readsEvent 60 = .ok (.iadd, 1) := by decide +kernel
theorem dX10_readsEvent_61 : decode cX10_readsEvent 61 = .ok (.iastore, 1) := by decide +kernel
theorem dX10_readsEvent_62 : decode cX10_readsEvent 62 = .ok (.aload_n 0, 1) := by decide +kernel
theorem dX10_readsEvent_63 : decode cX10_readsEvent 63 = .ok (.getfield 28, 3) := by decide +kernel
theorem dX10_readsEvent_66 : decode cX10_readsEvent 66 = .ok (.iload_n 1, 1) := by decide +kernel
theorem dX10_readsEvent_67 : decode cX10_readsEvent 67 = .ok (.iconst 3, 1) := by decide +kernel
theorem dX10_readsEvent_68 : decode cX10_readsEvent 68 = .ok (.iadd, 1) := by decide +kernel
theorem dX10_readsEvent_69 : decode cX10_readsEvent 69 = .ok (.iload_n 3, 1) := by decide +kernel
theorem dX10_readsEvent_70 : decode cX10_readsEvent 70 = .ok (.iconst 5, 1) := by decide +kernel
theorem dX10_readsEvent_71 : decode cX10_readsEvent 71 = .ok (.if_icmp .ge 28, 3) := by decide +kernel
theorem dX10_readsEvent_74 : decode cX10_readsEvent 74 = .ok (.aload_n 0, 1) := by decide +kernel
theorem dX10_readsEvent_75 : decode cX10_readsEvent 75 = .ok (.getfield 28, 3) := by decide +kernel
theorem dX10_readsEvent_78 : decode cX10_readsEvent 78 = .ok (.iload_n 1, 1) := by decide +kernel
theorem dX10_readsEvent_79 : decode cX10_readsEvent 79 = .ok (.iconst 0, 1) := by decide +kernel
theorem dX10_readsEvent_80 : decode cX10_readsEvent 80 = .ok (.iadd, 1) := by decide +kernel
theorem dX10_readsEvent_81 : decode cX10_readsEvent 81 = .ok (.iaload, 1) := by decide +kernel
theorem dX10_readsEvent_82 : decode cX10_readsEvent 82 = .ok (.iconst (-1), 1) := by decide +kernel
theorem dX10_readsEvent_83 : decode cX10_readsEvent 83 = .ok (.if_icmp .eq 16, 3) := by decide +kernel
theorem dX10_readsEvent_86 : decode cX10_readsEvent 86 = .ok (.aload_n 0, 1) := by decide +kernel
theorem dX10_readsEvent_87 : decode cX10_readsEvent 87 = .ok (.bipush 17, 2) := by decide +kernel
theorem dX10_readsEvent_89 : decode cX10_readsEvent 89 = .ok (.invokevirtual 221, 3) := by decide +kernel
theorem dX10_readsEvent_92 : decode cX10_readsEvent 92 = .ok (.ifCond .eq 7, 3) := by decide +kernel
theorem dX10_readsEvent_95 : decode cX10_readsEvent 95 = .ok (.iconst 1, 1) := by decide +kernel
theorem dX10_readsEvent_96 : decode cX10_readsEvent 96 = .ok (.goto 4, 3) := by decide +kernel
theorem dX10_readsEvent_99 : decode cX10_readsEvent 99 = .ok (.iconst 0, 1) := by decide +kernel
theorem dX10_readsEvent_100 : decode cX10_readsEvent 100 = .ok (.iastore, 1) := by decide +kernel
theorem dX10_readsEvent_101 : decode cX10_readsEvent 101 = .ok (.iload_n 3, 1) := by decide +kernel
theorem dX10_readsEvent_102 : decode cX10_readsEvent 102 = .ok (.iconst 5, 1) := by decide +kernel
theorem dX10_readsEvent_103 : decode cX10_readsEvent 103 = .ok (.if_icmp .ge 7, 3) := by decide +kernel
theorem dX10_readsEvent_106 : decode cX10_readsEvent 106 = .ok (.iconst 1, 1) := by decide +kernel
theorem dX10_readsEvent_107 : decode cX10_readsEvent 107 = .ok (.goto 4, 3) := by decide +kernel
theorem dX10_readsEvent_110 : decode cX10_readsEvent 110 = .ok (.iconst 0, 1) := by decide +kernel
theorem dX10_readsEvent_111 : decode cX10_readsEvent 111 = .ok (.ireturn, 1) := by decide +kernel
theorem dX10_isRest_0 : decode cX10_isRest 0 = .ok (.aload_n 0, 1) := by decide +kernel
theorem dX10_isRest_1 : decode cX10_isRest 1 = .ok (.getfield 205, 3) := by decide +kernel
theorem dX10_isRest_4 : decode cX10_isRest 4 = .ok (.istore_n 1, 1) := by decide +kernel
theorem dX10_isRest_5 : decode cX10_isRest 5 = .ok (.aload_n 0, 1) := by decide +kernel
theorem dX10_isRest_6 : decode cX10_isRest 6 = .ok (.bipush 10, 2) := by decide +kernel
theorem dX10_isRest_8 : decode cX10_isRest 8 = .ok (.invokevirtual 221, 3) := by decide +kernel
theorem dX10_isRest_11 : decode cX10_isRest 11 = .ok (.istore_n 2, 1) := by decide +kernel
theorem dX10_isRest_12 : decode cX10_isRest 12 = .ok (.aload_n 0, 1) := by decide +kernel
theorem dX10_isRest_13 : decode cX10_isRest 13 = .ok (.iload_n 1, 1) := by decide +kernel
theorem dX10_isRest_14 : decode cX10_isRest 14 = .ok (.putfield 205, 3) := by decide +kernel
theorem dX10_isRest_17 : decode cX10_isRest 17 = .ok (.aload_n 0, 1) := by decide +kernel
theorem dX10_isRest_18 : decode cX10_isRest 18 = .ok (.iload_n 2, 1) := by decide +kernel
theorem dX10_isRest_19 : decode cX10_isRest 19 = .ok (.ifCond .eq 9, 3) := by decide +kernel
theorem dX10_isRest_22 : decode cX10_isRest 22 = .ok (.iload_n 1, 1) := by decide +kernel
theorem dX10_isRest_23 : decode cX10_isRest 23 = .ok (.iconst 4, 1) := by decide +kernel
theorem dX10_isRest_24 : decode cX10_isRest 24 = .ok (.iadd, 1) := by decide +kernel
theorem dX10_isRest_25 : decode cX10_isRest 25 = .ok (.goto 7, 3) := by decide +kernel
theorem dX10_isRest_28 : decode cX10_isRest 28 = .ok (.aload_n 0, 1) := by decide +kernel
theorem dX10_isRest_29 : decode cX10_isRest 29 = .ok (.getfield 202, 3) := by decide +kernel
theorem dX10_isRest_32 : decode cX10_isRest 32 = .ok (.putfield 202, 3) := by decide +kernel
theorem dX10_isRest_35 : decode cX10_isRest 35 = .ok (.iload_n 2, 1) := by decide +kernel
theorem dX10_isRest_36 : decode cX10_isRest 36 = .ok (.ireturn, 1) := by decide +kernel
theorem dX10_readsEvents_0 : decode cX10_readsEvents 0 = .ok (.iconst 0, 1) := by decide +kernel
theorem dX10_readsEvents_1 : decode cX10_readsEvents 1 = .ok (.istore_n 2, 1) := by decide +kernel
theorem dX10_readsEvents_2 : decode cX10_readsEvents 2 = .ok (.iload_n 2, 1) := by decide +kernel
theorem dX10_readsEvents_3 : decode cX10_readsEvents 3 = .ok (.bipush 24, 2) := by decide +kernel
theorem dX10_readsEvents_5 : decode cX10_readsEvents 5 = .ok (.if_icmp .ge 43, 3) := by decide +kernel
theorem dX10_readsEvents_8 : decode cX10_readsEvents 8 = .ok (.aload_n 0, 1) := by decide +kernel
theorem dX10_readsEvents_9 : decode cX10_readsEvents 9 = .ok (.invokevirtual 230, 3) := by decide +kernel
theorem dX10_readsEvents_12 : decode cX10_readsEvents 12 = .ok (.ifCond .ne 10, 3) := by decide +kernel
theorem dX10_readsEvents_15 : decode cX10_readsEvents 15 = .ok (.aload_n 0, 1) := by decide +kernel
theorem dX10_readsEvents_16 : decode cX10_readsEvents 16 = .ok (.invokevirtual 237, 3) := by decide +kernel
theorem dX10_readsEvents_19 : decode cX10_readsEvents 19 = .ok (.ifCond .eq 29, 3) := by decide +kernel
theorem dX10_readsEvents_22 : decode cX10_readsEvents 22 = .ok (.aload_n 0, 1) := by decide +kernel
theorem dX10_readsEvents_23 : decode cX10_readsEvents 23 = .ok (.bipush 9, 2) := by decide +kernel
theorem dX10_readsEvents_25 : decode cX10_readsEvents 25 = .ok (.bipush 96, 2) := by decide +kernel
theorem dX10_readsEvents_27 : decode cX10_readsEvents 27 = .ok (.iload_n 1, 1) := by decide +kernel
theorem dX10_readsEvents_28 : decode cX10_readsEvents 28 = .ok (.imul, 1) := by decide +kernel
theorem dX10_readsEvents_29 : decode cX10_readsEvents 29 = .ok (.iadd, 1) := by decide +kernel
theorem dX10_readsEvents_30 : decode cX10_readsEvents 30 = .ok (.iconst 4, 1) := by decide +kernel
theorem dX10_readsEvents_31 : decode cX10_readsEvents 31 = .ok (.iload_n 2, 1) := by decide +kernel
theorem dX10_readsEvents_32 : decode cX10_readsEvents 32 = .ok (.imul, 1) := by decide +kernel
theorem dX10_readsEvents_33 : decode cX10_readsEvents 33 = .ok (.iadd, 1) := by decide +kernel
theorem dX10_readsEvents_34 : decode cX10_readsEvents 34 = .ok (.invokevirtual 240, 3) := by decide +kernel
theorem dX10_readsEvents_37 : decode cX10_readsEvents 37 = .ok (.ifCond .ne 5, 3) := by decide +kernel
theorem dX10_readsEvents_40 : decode cX10_readsEvents 40 = .ok (.iconst 0, 1) := by decide +kernel
theorem dX10_readsEvents_41 : decode cX10_readsEvents 41 = .ok (.ireturn, 1) := by decide +kernel
theorem dX10_readsEvents_42 : decode cX10_readsEvents 42 = .ok (.iinc 2 1, 3) := by decide +kernel
theorem dX10_readsEvents_45 : decode cX10_readsEvents 45 = .ok (.goto (-43), 3) := by decide +kernel
theorem dX10_readsEvents_48 : decode cX10_readsEvents 48 = .ok (.aload_n 0, 1) := by decide +kernel
theorem dX10_readsEvents_49 : decode cX10_readsEvents 49 = .ok (.getfield 28, 3) := by decide +kernel
theorem dX10_readsEvents_52 : decode cX10_readsEvents 52 = .ok (.bipush 7, 2) := by decide +kernel
theorem dX10_readsEvents_54 : decode cX10_readsEvents 54 = .ok (.iload_n 1, 1) := by decide +kernel
theorem dX10_readsEvents_55 : decode cX10_readsEvents 55 = .ok (.iadd, 1) := by decide +kernel
theorem dX10_readsEvents_56 : decode cX10_readsEvents 56 = .ok (.iload_n 2, 1) := by decide +kernel
theorem dX10_readsEvents_57 : decode cX10_readsEvents 57 = .ok (.iastore, 1) := by decide +kernel
theorem dX10_readsEvents_58 : decode cX10_readsEvents 58 = .ok (.iload_n 2, 1) := by decide +kernel
theorem dX10_readsEvents_59 : decode cX10_readsEvents 59 = .ok (.ifCond .le 7, 3) := by decide +kernel
theorem dX10_readsEvents_62 : decode cX10_readsEvents 62 = .ok (.iconst 1, 1) := by decide +kernel
theorem dX10_readsEvents_63 : decode cX10_readsEvents 63 = .ok (.goto 4, 3) := by decide +kernel
theorem dX10_readsEvents_66 : decode cX10_readsEvents 66 = .ok (.iconst 0, 1) := by decide +kernel
theorem dX10_readsEvents_67 : decode cX10_readsEvents 67 = .ok (.ireturn, 1) := by decide +kernel
theorem dX10_readsVoices_0 : decode cX10_readsVoices 0 = .ok (.iconst 1, 1) := by decide +kernel
theorem dX10_readsVoices_1 : decode cX10_readsVoices 1 = .ok (.istore_n 1, 1) := by decide +kernel
theorem dX10_readsVoices_2 : decode cX10_readsVoices 2 = .ok (.iload_n 1, 1) := by decide +kernel
theorem dX10_readsVoices_3 : decode cX10_readsVoices 3 = .ok (.iconst 3, 1) := by decide +kernel
theorem dX10_readsVoices_4 : decode cX10_readsVoices 4 = .ok (.if_icmp .ge 50, 3) := by decide +kernel
theorem dX10_readsVoices_7 : decode cX10_readsVoices 7 = .ok (.aload_n 0, 1) := by decide +kernel
theorem dX10_readsVoices_8 : decode cX10_readsVoices 8 = .ok (.bipush 9, 2) := by decide +kernel
theorem dX10_readsVoices_10 : decode cX10_readsVoices 10 = .ok (.invokevirtual 221, 3) := by decide +kernel
theorem dX10_readsVoices_13 : decode cX10_readsVoices 13 = .ok (.ifCond .eq 41, 3) := by decide +kernel
theorem dX10_readsVoices_16 : decode cX10_readsVoices 16 = .ok (.aload_n 0, 1) := by decide +kernel
theorem dX10_readsVoices_17 : decode cX10_readsVoices 17 = .ok (.iload_n 1, 1) := by decide +kernel
theorem dX10_readsVoices_18 : decode cX10_readsVoices 18 = .ok (.iconst 2, 1) := by decide +kernel
theorem dX10_readsVoices_19 : decode cX10_readsVoices 19 = .ok (.invokevirtual 224, 3) := by decide +kernel
theorem dX10_readsVoices_22 : decode cX10_readsVoices 22 = .ok (.ifCond .ne 5, 3) := by decide +kernel
theorem dX10_readsVoices_25 : decode cX10_readsVoices 25 = .ok (.iconst 0, 1) := by decide +kernel
theorem dX10_readsVoices_26 : decode cX10_readsVoices 26 = .ok (.ireturn, 1) := by decide +kernel
theorem dX10_readsVoices_27 : decode cX10_readsVoices 27 = .ok (.aload_n 0, 1) := by decide +kernel
theorem dX10_readsVoices_28 : decode cX10_readsVoices 28 = .ok (.getfield 214, 3) := by decide +kernel
theorem dX10_readsVoices_31 : decode cX10_readsVoices 31 = .ok (.iconst 1, 1) := by decide +kernel
theorem dX10_readsVoices_32 : decode cX10_readsVoices 32 = .ok (.isub, 1) := by decide +kernel
theorem dX10_readsVoices_33 : decode cX10_readsVoices 33 = .ok (.istore_n 2, 1) := by decide +kernel
theorem dX10_readsVoices_34 : decode cX10_readsVoices 34 = .ok (.aload_n 0, 1) := by decide +kernel
theorem dX10_readsVoices_35 : decode cX10_readsVoices 35 = .ok (.getfield 214, 3) := by decide +kernel
theorem dX10_readsVoices_38 : decode cX10_readsVoices 38 = .ok (.iconst 1, 1) := by decide +kernel
theorem dX10_readsVoices_39 : decode cX10_readsVoices 39 = .ok (.iadd, 1) := by decide +kernel
theorem dX10_readsVoices_40 : decode cX10_readsVoices 40 = .ok (.istore_n 1, 1) := by decide +kernel
theorem dX10_readsVoices_41 : decode cX10_readsVoices 41 = .ok (.aload_n 0, 1) := by decide +kernel
theorem dX10_readsVoices_42 : decode cX10_readsVoices 42 = .ok (.iload_n 2, 1) := by decide +kernel
theorem dX10_readsVoices_43 : decode cX10_readsVoices 43 = .ok (.invokevirtual 243, 3) := by decide +kernel
theorem dX10_readsVoices_46 : decode cX10_readsVoices 46 = .ok (.ifCond .ne 5, 3) := by decide +kernel
theorem dX10_readsVoices_49 : decode cX10_readsVoices 49 = .ok (.iconst 0, 1) := by decide +kernel
theorem dX10_readsVoices_50 : decode cX10_readsVoices 50 = .ok (.ireturn, 1) := by decide +kernel
theorem dX10_readsVoices_51 : decode cX10_readsVoices 51 = .ok (.goto (-49), 3) := by decide +kernel
theorem dX10_readsVoices_54 : decode cX10_readsVoices 54 = .ok (.iconst 1, 1) := by decide +kernel
theorem dX10_readsVoices_55 : decode cX10_readsVoices 55 = .ok (.ireturn, 1) := by decide +kernel
theorem dX10_readsEnding_0 : decode cX10_readsEnding 0 = .ok (.aload_n 0, 1) := by decide +kernel
theorem dX10_readsEnding_1 : decode cX10_readsEnding 1 = .ok (.iconst 2, 1) := by decide +kernel
theorem dX10_readsEnding_2 : decode cX10_readsEnding 2 = .ok (.invokevirtual 221, 3) := by decide +kernel
theorem dX10_readsEnding_5 : decode cX10_readsEnding 5 = .ok (.ifCond .ne 5, 3) := by decide +kernel
theorem dX10_readsEnding_8 : decode cX10_readsEnding 8 = .ok (.iconst 1, 1) := by decide +kernel
theorem dX10_readsEnding_9 : decode cX10_readsEnding 9 = .ok (.ireturn, 1) := by decide +kernel
theorem dX10_readsEnding_10 : decode cX10_readsEnding 10 = .ok (.aload_n 0, 1) := by decide +kernel
theorem dX10_readsEnding_11 : decode cX10_readsEnding 11 = .ok (.iconst 1, 1) := by decide +kernel
theorem dX10_readsEnding_12 : decode cX10_readsEnding 12 = .ok (.iconst 4, 1) := by decide +kernel
theorem dX10_readsEnding_13 : decode cX10_readsEnding 13 = .ok (.invokevirtual 224, 3) := by decide +kernel
theorem dX10_readsEnding_16 : decode cX10_readsEnding 16 = .ok (.istore_n 1, 1) := by decide +kernel
theorem dX10_readsEnding_17 : decode cX10_readsEnding 17 = .ok (.aload_n 0, 1) := by decide +kernel
theorem dX10_readsEnding_18 : decode cX10_readsEnding 18 = .ok (.getfield 28, 3) := by decide +kernel
theorem dX10_readsEnding_21 : decode cX10_readsEnding 21 = .ok (.bipush 6, 2) := by decide +kernel
theorem dX10_readsEnding_23 : decode cX10_readsEnding 23 = .ok (.aload_n 0, 1) := by decide +kernel
theorem dX10_readsEnding_24 : decode cX10_readsEnding 24 = .ok (.getfield 214, 3) := by decide +kernel
theorem dX10_readsEnding_27 : decode cX10_readsEnding 27 = .ok (.iastore, 1) := by decide +kernel
theorem dX10_readsEnding_28 : decode cX10_readsEnding 28 = .ok (.iload_n 1, 1) := by decide +kernel
theorem dX10_readsEnding_29 : decode cX10_readsEnding 29 = .ok (.ireturn, 1) := by decide +kernel
theorem dX10_readsBack_0 : decode cX10_readsBack 0 = .ok (.aload_n 0, 1) := by decide +kernel
theorem dX10_readsBack_1 : decode cX10_readsBack 1 = .ok (.bipush 18, 2) := by decide +kernel
theorem dX10_readsBack_3 : decode cX10_readsBack 3 = .ok (.invokevirtual 221, 3) := by decide +kernel
theorem dX10_readsBack_6 : decode cX10_readsBack 6 = .ok (.ifCond .ne 5, 3) := by decide +kernel
theorem dX10_readsBack_9 : decode cX10_readsBack 9 = .ok (.iconst 1, 1) := by decide +kernel
theorem dX10_readsBack_10 : decode cX10_readsBack 10 = .ok (.ireturn, 1) := by decide +kernel
theorem dX10_readsBack_11 : decode cX10_readsBack 11 = .ok (.aload_n 0, 1) := by decide +kernel
theorem dX10_readsBack_12 : decode cX10_readsBack 12 = .ok (.iconst 2, 1) := by decide +kernel
theorem dX10_readsBack_13 : decode cX10_readsBack 13 = .ok (.iconst 4, 1) := by decide +kernel
theorem dX10_readsBack_14 : decode cX10_readsBack 14 = .ok (.invokevirtual 224, 3) := by decide +kernel
theorem dX10_readsBack_17 : decode cX10_readsBack 17 = .ok (.istore_n 1, 1) := by decide +kernel
theorem dX10_readsBack_18 : decode cX10_readsBack 18 = .ok (.aload_n 0, 1) := by decide +kernel
theorem dX10_readsBack_19 : decode cX10_readsBack 19 = .ok (.getfield 28, 3) := by decide +kernel
theorem dX10_readsBack_22 : decode cX10_readsBack 22 = .ok (.iconst 5, 1) := by decide +kernel
theorem dX10_readsBack_23 : decode cX10_readsBack 23 = .ok (.aload_n 0, 1) := by decide +kernel
theorem dX10_readsBack_24 : decode cX10_readsBack 24 = .ok (.getfield 214, 3) := by decide +kernel
theorem dX10_readsBack_27 : decode cX10_readsBack 27 = .ok (.iastore, 1) := by decide +kernel
theorem dX10_readsBack_28 : decode cX10_readsBack 28 = .ok (.iload_n 1, 1) := by decide +kernel
theorem dX10_readsBack_29 : decode cX10_readsBack 29 = .ok (.ireturn, 1) := by decide +kernel
theorem dX10_readsAll_0 : decode cX10_readsAll 0 = .ok (.iconst 0, 1) := by decide +kernel
theorem dX10_readsAll_1 : decode cX10_readsAll 1 = .ok (.istore_n 1, 1) := by decide +kernel
theorem dX10_readsAll_2 : decode cX10_readsAll 2 = .ok (.iload_n 1, 1) := by decide +kernel
theorem dX10_readsAll_3 : decode cX10_readsAll 3 = .ok (.sipush 201, 3) := by decide +kernel
theorem dX10_readsAll_6 : decode cX10_readsAll 6 = .ok (.if_icmp .ge 16, 3) := by decide +kernel
theorem dX10_readsAll_9 : decode cX10_readsAll 9 = .ok (.aload_n 0, 1) := by decide +kernel
theorem dX10_readsAll_10 : decode cX10_readsAll 10 = .ok (.getfield 28, 3) := by decide +kernel
theorem dX10_readsAll_13 : decode cX10_readsAll 13 = .ok (.iload_n 1, 1) := by decide +kernel
theorem dX10_readsAll_14 : decode cX10_readsAll 14 = .ok (.iconst 0, 1) := by decide +kernel
theorem dX10_readsAll_15 : decode cX10_readsAll 15 = .ok (.iastore, 1) := by decide +kernel
theorem dX10_readsAll_16 : decode cX10_readsAll 16 = .ok (.iinc 1 1, 3) := by decide +kernel
theorem dX10_readsAll_19 : decode cX10_readsAll 19 = .ok (.goto (-17), 3) := by decide +kernel
theorem dX10_readsAll_22 : decode cX10_readsAll 22 = .ok (.aload_n 0, 1) := by decide +kernel
theorem dX10_readsAll_23 : decode cX10_readsAll 23 = .ok (.iconst 0, 1) := by decide +kernel
theorem dX10_readsAll_24 : decode cX10_readsAll 24 = .ok (.putfield 217, 3) := by decide +kernel
theorem dX10_readsAll_27 : decode cX10_readsAll 27 = .ok (.aload_n 0, 1) := by decide +kernel
theorem dX10_readsAll_28 : decode cX10_readsAll 28 = .ok (.iconst 0, 1) := by decide +kernel
theorem dX10_readsAll_29 : decode cX10_readsAll 29 = .ok (.putfield 227, 3) := by decide +kernel
theorem dX10_readsAll_32 : decode cX10_readsAll 32 = .ok (.aload_n 0, 1) := by decide +kernel
theorem dX10_readsAll_33 : decode cX10_readsAll 33 = .ok (.iconst 0, 1) := by decide +kernel
theorem dX10_readsAll_34 : decode cX10_readsAll 34 = .ok (.putfield 202, 3) := by decide +kernel
theorem dX10_readsAll_37 : decode cX10_readsAll 37 = .ok (.aload_n 0, 1) := by decide +kernel
theorem dX10_readsAll_38 : decode cX10_readsAll 38 = .ok (.invokevirtual 208, 3) := by decide +kernel
theorem dX10_readsAll_41 : decode cX10_readsAll 41 = .ok (.aload_n 0, 1) := by decide +kernel
theorem dX10_readsAll_42 : decode cX10_readsAll 42 = .ok (.iconst 0, 1) := by decide +kernel
theorem dX10_readsAll_43 : decode cX10_readsAll 43 = .ok (.invokevirtual 221, 3) := by decide +kernel
theorem dX10_readsAll_46 : decode cX10_readsAll 46 = .ok (.ifCond .eq 14, 3) := by decide +kernel
theorem dX10_readsAll_49 : decode cX10_readsAll 49 = .ok (.aload_n 0, 1) := by decide +kernel
theorem dX10_readsAll_50 : decode cX10_readsAll 50 = .ok (.iconst 0, 1) := by decide +kernel
theorem dX10_readsAll_51 : decode cX10_readsAll 51 = .ok (.sipush 999, 3) := by decide +kernel
theorem dX10_readsAll_54 : decode cX10_readsAll 54 = .ok (.invokevirtual 224, 3) := by decide +kernel
theorem dX10_readsAll_57 : decode cX10_readsAll 57 = .ok (.ifCond .ne 5, 3) := by decide +kernel
theorem dX10_readsAll_60 : decode cX10_readsAll 60 = .ok (.iconst 0, 1) := by decide +kernel
theorem dX10_readsAll_61 : decode cX10_readsAll 61 = .ok (.ireturn, 1) := by decide +kernel
theorem dX10_readsAll_62 : decode cX10_readsAll 62 = .ok (.aload_n 0, 1) := by decide +kernel
theorem dX10_readsAll_63 : decode cX10_readsAll 63 = .ok (.getfield 28, 3) := by decide +kernel
theorem dX10_readsAll_66 : decode cX10_readsAll 66 = .ok (.iconst 4, 1) := by decide +kernel
theorem dX10_readsAll_67 : decode cX10_readsAll 67 = .ok (.aload_n 0, 1) := by decide +kernel
theorem dX10_readsAll_68 : decode cX10_readsAll 68 = .ok (.iconst 1, 1) := by decide +kernel
theorem dX10_readsAll_69 : decode cX10_readsAll 69 = .ok (.invokevirtual 221, 3) := by decide +kernel
theorem dX10_readsAll_72 : decode cX10_readsAll 72 = .ok (.ifCond .eq 7, 3) := by decide +kernel
theorem dX10_readsAll_75 : decode cX10_readsAll 75 = .ok (.iconst 1, 1) := by decide +kernel
theorem dX10_readsAll_76 : decode cX10_readsAll 76 = .ok (.goto 4, 3) := by decide +kernel
theorem dX10_readsAll_79 : decode cX10_readsAll 79 = .ok (.iconst 0, 1) := by decide +kernel
theorem dX10_readsAll_80 : decode cX10_readsAll 80 = .ok (.iastore, 1) := by decide +kernel
theorem dX10_readsAll_81 : decode cX10_readsAll 81 = .ok (.aload_n 0, 1) := by decide +kernel
theorem dX10_readsAll_82 : decode cX10_readsAll 82 = .ok (.invokevirtual 246, 3) := by decide +kernel
theorem dX10_readsAll_85 : decode cX10_readsAll 85 = .ok (.ifCond .eq 18, 3) := by decide +kernel
theorem dX10_readsAll_88 : decode cX10_readsAll 88 = .ok (.aload_n 0, 1) := by decide +kernel
theorem dX10_readsAll_89 : decode cX10_readsAll 89 = .ok (.iconst 3, 1) := by decide +kernel
theorem dX10_readsAll_90 : decode cX10_readsAll 90 = .ok (.invokevirtual 221, 3) := by decide +kernel
theorem dX10_readsAll_93 : decode cX10_readsAll 93 = .ok (.ifCond .eq 12, 3) := by decide +kernel
theorem dX10_readsAll_96 : decode cX10_readsAll 96 = .ok (.aload_n 0, 1) := by decide +kernel
theorem dX10_readsAll_97 : decode cX10_readsAll 97 = .ok (.invokevirtual 249, 3) := by decide +kernel
theorem dX10_readsAll_100 : decode cX10_readsAll 100 = .ok (.ifCond .ne 5, 3) := by decide +kernel
theorem dX10_readsAll_103 : decode cX10_readsAll 103 = .ok (.iconst 0, 1) := by decide +kernel
theorem dX10_readsAll_104 : decode cX10_readsAll 104 = .ok (.ireturn, 1) := by decide +kernel
theorem dX10_readsAll_105 : decode cX10_readsAll 105 = .ok (.aload_n 0, 1) := by decide +kernel
theorem dX10_readsAll_106 : decode cX10_readsAll 106 = .ok (.bipush 8, 2) := by decide +kernel
theorem dX10_readsAll_108 : decode cX10_readsAll 108 = .ok (.invokevirtual 221, 3) := by decide +kernel
theorem dX10_readsAll_111 : decode cX10_readsAll 111 = .ok (.ifCond .eq 12, 3) := by decide +kernel
theorem dX10_readsAll_114 : decode cX10_readsAll 114 = .ok (.aload_n 0, 1) := by decide +kernel
theorem dX10_readsAll_115 : decode cX10_readsAll 115 = .ok (.invokevirtual 252, 3) := by decide +kernel
theorem dX10_readsAll_118 : decode cX10_readsAll 118 = .ok (.ifCond .ne 5, 3) := by decide +kernel
theorem dX10_readsAll_121 : decode cX10_readsAll 121 = .ok (.iconst 0, 1) := by decide +kernel
theorem dX10_readsAll_122 : decode cX10_readsAll 122 = .ok (.ireturn, 1) := by decide +kernel
theorem dX10_readsAll_123 : decode cX10_readsAll 123 = .ok (.aload_n 0, 1) := by decide +kernel
theorem dX10_readsAll_124 : decode cX10_readsAll 124 = .ok (.invokevirtual 255, 3) := by decide +kernel
theorem dX10_readsAll_127 : decode cX10_readsAll 127 = .ok (.ifCond .eq 34, 3) := by decide +kernel
theorem dX10_readsAll_130 : decode cX10_readsAll 130 = .ok (.aload_n 0, 1) := by decide +kernel
theorem dX10_readsAll_131 : decode cX10_readsAll 131 = .ok (.invokevirtual 258, 3) := by decide +kernel
theorem dX10_readsAll_134 : decode cX10_readsAll 134 = .ok (.ifCond .eq 27, 3) := by decide +kernel
theorem dX10_readsAll_137 : decode cX10_readsAll 137 = .ok (.aload_n 0, 1) := by decide +kernel
theorem dX10_readsAll_138 : decode cX10_readsAll 138 = .ok (.bipush 19, 2) := by decide +kernel
theorem dX10_readsAll_140 : decode cX10_readsAll 140 = .ok (.invokevirtual 221, 3) := by decide +kernel
theorem dX10_readsAll_143 : decode cX10_readsAll 143 = .ok (.ifCond .eq 18, 3) := by decide +kernel
theorem dX10_readsAll_146 : decode cX10_readsAll 146 = .ok (.aload_n 0, 1) := by decide +kernel
theorem dX10_readsAll_147 : decode cX10_readsAll 147 = .ok (.getfield 205, 3) := by decide +kernel
theorem dX10_readsAll_150 : decode cX10_readsAll 150 = .ok (.aload_n 0, 1) := by decide +kernel
theorem dX10_readsAll_151 : decode cX10_readsAll 151 = .ok (.getfield 152, 3) := by decide +kernel
theorem dX10_readsAll_154 : decode cX10_readsAll 154 = .ok (.if_icmp .ne 7, 3) := by decide +kernel
theorem dX10_readsAll_157 : decode cX10_readsAll 157 = .ok (.iconst 1, 1) := by decide +kernel
theorem dX10_readsAll_158 : decode cX10_readsAll 158 = .ok (.goto 4, 3) := by decide +kernel
theorem dX10_readsAll_161 : decode cX10_readsAll 161 = .ok (.iconst 0, 1) := by decide +kernel
theorem dX10_readsAll_162 : decode cX10_readsAll 162 = .ok (.ireturn, 1) := by decide +kernel
theorem dX10_faultNow_0 : decode cX10_faultNow 0 = .ok (.aload_n 0, 1) := by decide +kernel
theorem dX10_faultNow_1 : decode cX10_faultNow 1 = .ok (.invokevirtual 261, 3) := by decide +kernel
theorem dX10_faultNow_4 : decode cX10_faultNow 4 = .ok (.ifCond .eq 9, 3) := by decide +kernel
theorem dX10_faultNow_7 : decode cX10_faultNow 7 = .ok (.sipush (-1000), 3) := by decide +kernel
theorem dX10_faultNow_10 : decode cX10_faultNow 10 = .ok (.goto 7, 3) := by decide +kernel
theorem dX10_faultNow_13 : decode cX10_faultNow 13 = .ok (.aload_n 0, 1) := by decide +kernel
theorem dX10_faultNow_14 : decode cX10_faultNow 14 = .ok (.getfield 205, 3) := by decide +kernel
theorem dX10_faultNow_17 : decode cX10_faultNow 17 = .ok (.ireturn, 1) := by decide +kernel
theorem dX10_fault_0 : decode cX10_fault 0 = .ok (.aload_n 0, 1) := by decide +kernel
theorem dX10_fault_1 : decode cX10_fault 1 = .ok (.iconst 0, 1) := by decide +kernel
theorem dX10_fault_2 : decode cX10_fault 2 = .ok (.putfield 31, 3) := by decide +kernel
theorem dX10_fault_5 : decode cX10_fault 5 = .ok (.aload_n 0, 1) := by decide +kernel
theorem dX10_fault_6 : decode cX10_fault 6 = .ok (.invokevirtual 264, 3) := by decide +kernel
theorem dX10_fault_9 : decode cX10_fault 9 = .ok (.ireturn, 1) := by decide +kernel
theorem dX10_readInto_0 : decode cX10_readInto 0 = .ok (.aload_n 0, 1) := by decide +kernel
theorem dX10_readInto_1 : decode cX10_readInto 1 = .ok (.aload_n 0, 1) := by decide +kernel
theorem dX10_readInto_2 : decode cX10_readInto 2 = .ok (.iload_n 1, 1) := by decide +kernel
theorem dX10_readInto_3 : decode cX10_readInto 3 = .ok (.invokevirtual 46, 3) := by decide +kernel
theorem dX10_readInto_6 : decode cX10_readInto 6 = .ok (.ifCond .eq 7, 3) := by decide +kernel
theorem dX10_readInto_9 : decode cX10_readInto 9 = .ok (.iconst 0, 1) := by decide +kernel
theorem dX10_readInto_10 : decode cX10_readInto 10 = .ok (.goto 4, 3) := by decide +kernel
theorem dX10_readInto_13 : decode cX10_readInto 13 = .ok (.iconst 1, 1) := by decide +kernel
theorem dX10_readInto_14 : decode cX10_readInto 14 = .ok (.invokevirtual 38, 3) := by decide +kernel
theorem dX10_readInto_17 : decode cX10_readInto 17 = .ok (.ifCond .eq 5, 3) := by decide +kernel
theorem dX10_readInto_20 : decode cX10_readInto 20 = .ok (.iconst 0, 1) := by decide +kernel
theorem dX10_readInto_21 : decode cX10_readInto 21 = .ok (.ireturn, 1) := by decide +kernel
theorem dX10_readInto_22 : decode cX10_readInto 22 = .ok (.aload_n 0, 1) := by decide +kernel
theorem dX10_readInto_23 : decode cX10_readInto 23 = .ok (.invokevirtual 261, 3) := by decide +kernel
theorem dX10_readInto_26 : decode cX10_readInto 26 = .ok (.ifCond .ne 12, 3) := by decide +kernel
theorem dX10_readInto_29 : decode cX10_readInto 29 = .ok (.sipush (-2000), 3) := by decide +kernel
theorem dX10_readInto_32 : decode cX10_readInto 32 = .ok (.aload_n 0, 1) := by decide +kernel
theorem dX10_readInto_33 : decode cX10_readInto 33 = .ok (.getfield 205, 3) := by decide +kernel
theorem dX10_readInto_36 : decode cX10_readInto 36 = .ok (.isub, 1) := by decide +kernel
theorem dX10_readInto_37 : decode cX10_readInto 37 = .ok (.ireturn, 1) := by decide +kernel
theorem dX10_readInto_38 : decode cX10_readInto 38 = .ok (.aload_n 0, 1) := by decide +kernel
theorem dX10_readInto_39 : decode cX10_readInto 39 = .ok (.invokevirtual 65, 3) := by decide +kernel
theorem dX10_readInto_42 : decode cX10_readInto 42 = .ok (.iload_n 1, 1) := by decide +kernel
theorem dX10_readInto_43 : decode cX10_readInto 43 = .ok (.invokestatic 68, 3) := by decide +kernel
theorem dX10_readInto_46 : decode cX10_readInto 46 = .ok (.istore_n 2, 1) := by decide +kernel
theorem dX10_readInto_47 : decode cX10_readInto 47 = .ok (.iconst 0, 1) := by decide +kernel
theorem dX10_readInto_48 : decode cX10_readInto 48 = .ok (.istore_n 3, 1) := by decide +kernel
theorem dX10_readInto_49 : decode cX10_readInto 49 = .ok (.iload_n 3, 1) := by decide +kernel
theorem dX10_readInto_50 : decode cX10_readInto 50 = .ok (.sipush 201, 3) := by decide +kernel
theorem dX10_readInto_53 : decode cX10_readInto 53 = .ok (.if_icmp .ge 78, 3) := by decide +kernel
theorem dX10_readInto_56 : decode cX10_readInto 56 = .ok (.iload_n 3, 1) := by decide +kernel
theorem dX10_readInto_57 : decode cX10_readInto 57 = .ok (.iconst 3, 1) := by decide +kernel
theorem dX10_readInto_58 : decode cX10_readInto 58 = .ok (.if_icmp .eq 30, 3) := by decide +kernel
theorem dX10_readInto_61 : decode cX10_readInto 61 = .ok (.iload_n 3, 1) := by decide +kernel
theorem dX10_readInto_62 : decode cX10_readInto 62 = .ok (.ifCond .ne 10, 3) := by decide +kernel
theorem dX10_readInto_65 : decode cX10_readInto 65 = .ok (.aload_n 0, 1) := by decide +kernel
theorem dX10_readInto_66 : decode cX10_readInto 66 = .ok (.getfield 217, 3) := by decide +kernel
theorem dX10_readInto_69 : decode cX10_readInto 69 = .ok (.ifCond .eq 19, 3) := by decide +kernel
theorem dX10_readInto_72 : decode cX10_readInto 72 = .ok (.iload_n 3, 1) := by decide +kernel
theorem dX10_readInto_73 : decode cX10_readInto 73 = .ok (.iconst 1, 1) := by decide +kernel
theorem dX10_readInto_74 : decode cX10_readInto 74 = .ok (.iconst 2, 1) := by decide +kernel
theorem dX10_readInto_75 : decode cX10_readInto 75 = .ok (.invokestatic 42, 3) := by decide +kernel
theorem dX10_readInto_78 : decode cX10_readInto 78 = .ok (.ifCond .eq 14, 3) := by decide +kernel
theorem dX10_readInto_81 : decode cX10_readInto 81 = .ok (.aload_n 0, 1) := by decide +kernel
theorem dX10_readInto_82 : decode cX10_readInto 82 = .ok (.getfield 227, 3) := by decide +kernel
theorem dX10_readInto_85 : decode cX10_readInto 85 = .ok (.ifCond .ne 7, 3) := by decide +kernel
theorem dX10_readInto_88 : decode cX10_readInto 88 = .ok (.iconst 1, 1) := by decide +kernel
theorem dX10_readInto_89 : decode cX10_readInto 89 = .ok (.goto 4, 3) := by decide +kernel
theorem dX10_readInto_92 : decode cX10_readInto 92 = .ok (.iconst 0, 1) := by decide +kernel
theorem dX10_readInto_93 : decode cX10_readInto 93 = .ok (.istore 4, 2) := by decide +kernel
theorem dX10_readInto_95 : decode cX10_readInto 95 = .ok (.aload_n 0, 1) := by decide +kernel
theorem dX10_readInto_96 : decode cX10_readInto 96 = .ok (.getfield 7, 3) := by decide +kernel
theorem dX10_readInto_99 : decode cX10_readInto 99 = .ok (.iload_n 2, 1) := by decide +kernel
theorem dX10_readInto_100 : decode cX10_readInto 100 = .ok (.iload_n 3, 1) := by decide +kernel
theorem dX10_readInto_101 : decode cX10_readInto 101 = .ok (.iadd, 1) := by decide +kernel
theorem dX10_readInto_102 : decode cX10_readInto 102 = .ok (.iload 4, 2) := by decide +kernel
theorem dX10_readInto_104 : decode cX10_readInto 104 = .ok (.ifCond .eq 14, 3) := by decide +kernel
theorem dX10_readInto_107 : decode cX10_readInto 107 = .ok (.aload_n 0, 1) := by decide +kernel
theorem dX10_readInto_108 : decode cX10_readInto 108 = .ok (.getfield 7, 3) := by decide +kernel
theorem dX10_readInto_111 : decode cX10_readInto 111 = .ok (.iload_n 2, 1) := by decide +kernel
theorem dX10_readInto_112 : decode cX10_readInto 112 = .ok (.iload_n 3, 1) := by decide +kernel
theorem dX10_readInto_113 : decode cX10_readInto 113 = .ok (.iadd, 1) := by decide +kernel
theorem dX10_readInto_114 : decode cX10_readInto 114 = .ok (.iaload, 1) := by decide +kernel
theorem dX10_readInto_115 : decode cX10_readInto 115 = .ok (.goto 9, 3) := by decide +kernel
theorem dX10_readInto_118 : decode cX10_readInto 118 = .ok (.aload_n 0, 1) := by decide +kernel
theorem dX10_readInto_119 : decode cX10_readInto 119 = .ok (.getfield 28, 3) := by decide +kernel
theorem dX10_readInto_122 : decode cX10_readInto 122 = .ok (.iload_n 3, 1) := by decide +kernel
theorem dX10_readInto_123 : decode cX10_readInto 123 = .ok (.iaload, 1) := by decide +kernel
theorem dX10_readInto_124 : decode cX10_readInto 124 = .ok (.iastore, 1) := by decide +kernel
theorem dX10_readInto_125 : decode cX10_readInto 125 = .ok (.iinc 3 1, 3) := by decide +kernel
theorem dX10_readInto_128 : decode cX10_readInto 128 = .ok (.goto (-79), 3) := by decide +kernel
theorem dX10_readInto_131 : decode cX10_readInto 131 = .ok (.aload_n 0, 1) := by decide +kernel
theorem dX10_readInto_132 : decode cX10_readInto 132 = .ok (.iload_n 1, 1) := by decide +kernel
theorem dX10_readInto_133 : decode cX10_readInto 133 = .ok (.bipush 7, 2) := by decide +kernel
theorem dX10_readInto_135 : decode cX10_readInto 135 = .ok (.invokevirtual 53, 3) := by decide +kernel
theorem dX10_readInto_138 : decode cX10_readInto 138 = .ok (.aload_n 0, 1) := by decide +kernel
theorem dX10_readInto_139 : decode cX10_readInto 139 = .ok (.iload_n 1, 1) := by decide +kernel
theorem dX10_readInto_140 : decode cX10_readInto 140 = .ok (.bipush 8, 2) := by decide +kernel
theorem dX10_readInto_142 : decode cX10_readInto 142 = .ok (.invokevirtual 53, 3) := by decide +kernel
theorem dX10_readInto_145 : decode cX10_readInto 145 = .ok (.iadd, 1) := by decide +kernel
theorem dX10_readInto_146 : decode cX10_readInto 146 = .ok (.ireturn, 1) := by decide +kernel
theorem dX10_isRead_0 : decode cX10_isRead 0 = .ok (.bipush 9, 2) := by decide +kernel
theorem dX10_isRead_2 : decode cX10_isRead 2 = .ok (.bipush 96, 2) := by decide +kernel
theorem dX10_isRead_4 : decode cX10_isRead 4 = .ok (.iload_n 2, 1) := by decide +kernel
theorem dX10_isRead_5 : decode cX10_isRead 5 = .ok (.imul, 1) := by decide +kernel
theorem dX10_isRead_6 : decode cX10_isRead 6 = .ok (.iadd, 1) := by decide +kernel
theorem dX10_isRead_7 : decode cX10_isRead 7 = .ok (.istore_n 3, 1) := by decide +kernel
theorem dX10_isRead_8 : decode cX10_isRead 8 = .ok (.aload_n 0, 1) := by decide +kernel
theorem dX10_isRead_9 : decode cX10_isRead 9 = .ok (.iload_n 1, 1) := by decide +kernel
theorem dX10_isRead_10 : decode cX10_isRead 10 = .ok (.bipush 7, 2) := by decide +kernel
theorem dX10_isRead_12 : decode cX10_isRead 12 = .ok (.iload_n 2, 1) := by decide +kernel
theorem dX10_isRead_13 : decode cX10_isRead 13 = .ok (.iadd, 1) := by decide +kernel
theorem dX10_isRead_14 : decode cX10_isRead 14 = .ok (.invokevirtual 53, 3) := by decide +kernel
theorem dX10_isRead_17 : decode cX10_isRead 17 = .ok (.aload_n 0, 1) := by decide +kernel
theorem dX10_isRead_18 : decode cX10_isRead 18 = .ok (.getfield 28, 3) := by decide +kernel
theorem dX10_isRead_21 : decode cX10_isRead 21 = .ok (.bipush 7, 2) := by decide +kernel
theorem dX10_isRead_23 : decode cX10_isRead 23 = .ok (.iload_n 2, 1) := by decide +kernel
theorem dX10_isRead_24 : decode cX10_isRead 24 = .ok (.iadd, 1) := by decide +kernel
theorem dX10_isRead_25 : decode cX10_isRead 25 = .ok (.iaload, 1) := by decide +kernel
theorem dX10_isRead_26 : decode cX10_isRead 26 = .ok (.if_icmp .ne 7, 3) := by decide +kernel
theorem dX10_isRead_29 : decode cX10_isRead 29 = .ok (.iconst 1, 1) := by decide +kernel
theorem dX10_isRead_30 : decode cX10_isRead 30 = .ok (.goto 4, 3) := by decide +kernel
theorem dX10_isRead_33 : decode cX10_isRead 33 = .ok (.iconst 0, 1) := by decide +kernel
theorem dX10_isRead_34 : decode cX10_isRead 34 = .ok (.istore 4, 2) := by decide +kernel
theorem dX10_isRead_36 : decode cX10_isRead 36 = .ok (.iconst 0, 1) := by decide +kernel
theorem dX10_isRead_37 : decode cX10_isRead 37 = .ok (.istore 5, 2) := by decide +kernel
theorem dX10_isRead_39 : decode cX10_isRead 39 = .ok (.iload 5, 2) := by decide +kernel
theorem dX10_isRead_41 : decode cX10_isRead 41 = .ok (.iconst 4, 1) := by decide +kernel
theorem dX10_isRead_42 : decode cX10_isRead 42 = .ok (.aload_n 0, 1) := by decide +kernel
theorem dX10_isRead_43 : decode cX10_isRead 43 = .ok (.getfield 28, 3) := by decide +kernel
theorem dX10_isRead_46 : decode cX10_isRead 46 = .ok (.bipush 7, 2) := by decide +kernel
theorem dX10_isRead_48 : decode cX10_isRead 48 = .ok (.iload_n 2, 1) := by decide +kernel
theorem dX10_isRead_49 : decode cX10_isRead 49 = .ok (.iadd, 1) := by decide +kernel
theorem dX10_isRead_50 : decode cX10_isRead 50 = .ok (.iaload, 1) := by decide +kernel
theorem dX10_isRead_51 : decode cX10_isRead 51 = .ok (.imul, 1) := by decide +kernel
theorem dX10_isRead_52 : decode cX10_isRead 52 = .ok (.if_icmp .ge 42, 3) := by decide +kernel
theorem dX10_isRead_55 : decode cX10_isRead 55 = .ok (.iload 4, 2) := by decide +kernel
theorem dX10_isRead_57 : decode cX10_isRead 57 = .ok (.ifCond .eq 37, 3) := by decide +kernel
theorem dX10_isRead_60 : decode cX10_isRead 60 = .ok (.aload_n 0, 1) := by decide +kernel
theorem dX10_isRead_61 : decode cX10_isRead 61 = .ok (.iload_n 1, 1) := by decide +kernel
theorem dX10_isRead_62 : decode cX10_isRead 62 = .ok (.iload_n 3, 1) := by decide +kernel
theorem dX10_isRead_63 : decode cX10_isRead 63 = .ok (.iload 5, 2) := by decide +kernel
theorem dX10_isRead_65 : decode cX10_isRead 65 = .ok (.iadd, 1) := by decide +kernel
theorem dX10_isRead_66 : decode cX10_isRead 66 = .ok (.invokevirtual 53, 3) := by decide +kernel
theorem dX10_isRead_69 : decode cX10_isRead 69 = .ok (.aload_n 0, 1) := by decide +kernel
theorem dX10_isRead_70 : decode cX10_isRead 70 = .ok (.getfield 28, 3) := by decide +kernel
theorem dX10_isRead_73 : decode cX10_isRead 73 = .ok (.iload_n 3, 1) := by decide +kernel
theorem dX10_isRead_74 : decode cX10_isRead 74 = .ok (.iload 5, 2) := by decide +kernel
theorem dX10_isRead_76 : decode cX10_isRead 76 = .ok (.iadd, 1) := by decide +kernel
theorem dX10_isRead_77 : decode cX10_isRead 77 = .ok (.iaload, 1) := by decide +kernel
theorem dX10_isRead_78 : decode cX10_isRead 78 = .ok (.if_icmp .ne 7, 3) := by decide +kernel
theorem dX10_isRead_81 : decode cX10_isRead 81 = .ok (.iconst 1, 1) := by decide +kernel
theorem dX10_isRead_82 : decode cX10_isRead 82 = .ok (.goto 4, 3) := by decide +kernel
theorem dX10_isRead_85 : decode cX10_isRead 85 = .ok (.iconst 0, 1) := by decide +kernel
theorem dX10_isRead_86 : decode cX10_isRead 86 = .ok (.istore 4, 2) := by decide +kernel
theorem dX10_isRead_88 : decode cX10_isRead 88 = .ok (.iinc 5 1, 3) := by decide +kernel
theorem dX10_isRead_91 : decode cX10_isRead 91 = .ok (.goto (-52), 3) := by decide +kernel
theorem dX10_isRead_94 : decode cX10_isRead 94 = .ok (.iload 4, 2) := by decide +kernel
theorem dX10_isRead_96 : decode cX10_isRead 96 = .ok (.ireturn, 1) := by decide +kernel
theorem dX10_tells_0 : decode cX10_tells 0 = .ok (.aload_n 0, 1) := by decide +kernel
theorem dX10_tells_1 : decode cX10_tells 1 = .ok (.aload_n 0, 1) := by decide +kernel
theorem dX10_tells_2 : decode cX10_tells 2 = .ok (.iload_n 1, 1) := by decide +kernel
theorem dX10_tells_3 : decode cX10_tells 3 = .ok (.invokevirtual 46, 3) := by decide +kernel
theorem dX10_tells_6 : decode cX10_tells 6 = .ok (.ifCond .eq 7, 3) := by decide +kernel
theorem dX10_tells_9 : decode cX10_tells 9 = .ok (.iconst 0, 1) := by decide +kernel
theorem dX10_tells_10 : decode cX10_tells 10 = .ok (.goto 4, 3) := by decide +kernel
theorem dX10_tells_13 : decode cX10_tells 13 = .ok (.iconst 1, 1) := by decide +kernel
theorem dX10_tells_14 : decode cX10_tells 14 = .ok (.invokevirtual 38, 3) := by decide +kernel
theorem dX10_tells_17 : decode cX10_tells 17 = .ok (.ifCond .ne 10, 3) := by decide +kernel
theorem dX10_tells_20 : decode cX10_tells 20 = .ok (.aload_n 0, 1) := by decide +kernel
theorem dX10_tells_21 : decode cX10_tells 21 = .ok (.invokevirtual 261, 3) := by decide +kernel
theorem dX10_tells_24 : decode cX10_tells 24 = .ok (.ifCond .ne 5, 3) := by decide +kernel
theorem dX10_tells_27 : decode cX10_tells 27 = .ok (.iconst 0, 1) := by decide +kernel
theorem dX10_tells_28 : decode cX10_tells 28 = .ok (.ireturn, 1) := by decide +kernel
theorem dX10_tells_29 : decode cX10_tells 29 = .ok (.aload_n 0, 1) := by decide +kernel
theorem dX10_tells_30 : decode cX10_tells 30 = .ok (.iload_n 1, 1) := by decide +kernel
theorem dX10_tells_31 : decode cX10_tells 31 = .ok (.iconst 0, 1) := by decide +kernel
theorem dX10_tells_32 : decode cX10_tells 32 = .ok (.invokevirtual 267, 3) := by decide +kernel
theorem dX10_tells_35 : decode cX10_tells 35 = .ok (.ifCond .eq 16, 3) := by decide +kernel
theorem dX10_tells_38 : decode cX10_tells 38 = .ok (.aload_n 0, 1) := by decide +kernel
theorem dX10_tells_39 : decode cX10_tells 39 = .ok (.iload_n 1, 1) := by decide +kernel
theorem dX10_tells_40 : decode cX10_tells 40 = .ok (.iconst 1, 1) := by decide +kernel
theorem dX10_tells_41 : decode cX10_tells 41 = .ok (.invokevirtual 267, 3) := by decide +kernel
theorem dX10_tells_44 : decode cX10_tells 44 = .ok (.ifCond .eq 7, 3) := by decide +kernel
theorem dX10_tells_47 : decode cX10_tells 47 = .ok (.iconst 1, 1) := by decide +kernel
theorem dX10_tells_48 : decode cX10_tells 48 = .ok (.goto 4, 3) := by decide +kernel
theorem dX10_tells_51 : decode cX10_tells 51 = .ok (.iconst 0, 1) := by decide +kernel
theorem dX10_tells_52 : decode cX10_tells 52 = .ok (.istore_n 2, 1) := by decide +kernel
theorem dX10_tells_53 : decode cX10_tells 53 = .ok (.iconst 4, 1) := by decide +kernel
theorem dX10_tells_54 : decode cX10_tells 54 = .ok (.istore_n 3, 1) := by decide +kernel
theorem dX10_tells_55 : decode cX10_tells 55 = .ok (.iload_n 3, 1) := by decide +kernel
theorem dX10_tells_56 : decode cX10_tells 56 = .ok (.bipush 6, 2) := by decide +kernel
theorem dX10_tells_58 : decode cX10_tells 58 = .ok (.if_icmp .gt 34, 3) := by decide +kernel
theorem dX10_tells_61 : decode cX10_tells 61 = .ok (.iload_n 2, 1) := by decide +kernel
theorem dX10_tells_62 : decode cX10_tells 62 = .ok (.ifCond .eq 22, 3) := by decide +kernel
theorem dX10_tells_65 : decode cX10_tells 65 = .ok (.aload_n 0, 1) := by decide +kernel
theorem dX10_tells_66 : decode cX10_tells 66 = .ok (.iload_n 1, 1) := by decide +kernel
theorem dX10_tells_67 : decode cX10_tells 67 = .ok (.iload_n 3, 1) := by decide +kernel
theorem dX10_tells_68 : decode cX10_tells 68 = .ok (.invokevirtual 53, 3) := by decide +kernel
theorem dX10_tells_71 : decode cX10_tells 71 = .ok (.aload_n 0, 1) := by decide +kernel
theorem dX10_tells_72 : decode cX10_tells 72 = .ok (.getfield 28, 3) := by decide +kernel
theorem dX10_tells_75 : decode cX10_tells 75 = .ok (.iload_n 3, 1) := by decide +kernel
theorem dX10_tells_76 : decode cX10_tells 76 = .ok (.iaload, 1) := by decide +kernel
theorem dX10_tells_77 : decode cX10_tells 77 = .ok (.if_icmp .ne 7, 3) := by decide +kernel
theorem dX10_tells_80 : decode cX10_tells 80 = .ok (.iconst 1, 1) := by decide +kernel
theorem dX10_tells_81 : decode cX10_tells 81 = .ok (.goto 4, 3) := by decide +kernel
theorem dX10_tells_84 : decode cX10_tells 84 = .ok (.iconst 0, 1) := by decide +kernel
theorem dX10_tells_85 : decode cX10_tells 85 = .ok (.istore_n 2, 1) := by decide +kernel
theorem dX10_tells_86 : decode cX10_tells 86 = .ok (.iinc 3 1, 3) := by decide +kernel
theorem dX10_tells_89 : decode cX10_tells 89 = .ok (.goto (-34), 3) := by decide +kernel
theorem dX10_tells_92 : decode cX10_tells 92 = .ok (.aload_n 0, 1) := by decide +kernel
theorem dX10_tells_93 : decode cX10_tells 93 = .ok (.getfield 217, 3) := by decide +kernel
theorem dX10_tells_96 : decode cX10_tells 96 = .ok (.ifCond .eq 18, 3) := by decide +kernel
theorem dX10_tells_99 : decode cX10_tells 99 = .ok (.aload_n 0, 1) := by decide +kernel
theorem dX10_tells_100 : decode cX10_tells 100 = .ok (.iload_n 1, 1) := by decide +kernel
theorem dX10_tells_101 : decode cX10_tells 101 = .ok (.iconst 0, 1) := by decide +kernel
theorem dX10_tells_102 : decode cX10_tells 102 = .ok (.invokevirtual 53, 3) := by decide +kernel
theorem dX10_tells_105 : decode cX10_tells 105 = .ok (.aload_n 0, 1) := by decide +kernel
theorem dX10_tells_106 : decode cX10_tells 106 = .ok (.getfield 28, 3) := by decide +kernel
theorem dX10_tells_109 : decode cX10_tells 109 = .ok (.iconst 0, 1) := by decide +kernel
theorem dX10_tells_110 : decode cX10_tells 110 = .ok (.iaload, 1) := by decide +kernel
theorem dX10_tells_111 : decode cX10_tells 111 = .ok (.if_icmp .ne 7, 3) := by decide +kernel
theorem dX10_tells_114 : decode cX10_tells 114 = .ok (.iconst 1, 1) := by decide +kernel
theorem dX10_tells_115 : decode cX10_tells 115 = .ok (.goto 4, 3) := by decide +kernel
theorem dX10_tells_118 : decode cX10_tells 118 = .ok (.iconst 0, 1) := by decide +kernel
theorem dX10_tells_119 : decode cX10_tells 119 = .ok (.istore_n 3, 1) := by decide +kernel
theorem dX10_tells_120 : decode cX10_tells 120 = .ok (.iload_n 2, 1) := by decide +kernel
theorem dX10_tells_121 : decode cX10_tells 121 = .ok (.ifCond .eq 48, 3) := by decide +kernel
theorem dX10_tells_124 : decode cX10_tells 124 = .ok (.iload_n 3, 1) := by decide +kernel
theorem dX10_tells_125 : decode cX10_tells 125 = .ok (.ifCond .eq 44, 3) := by decide +kernel
theorem dX10_tells_128 : decode cX10_tells 128 = .ok (.aload_n 0, 1) := by decide +kernel
theorem dX10_tells_129 : decode cX10_tells 129 = .ok (.getfield 227, 3) := by decide +kernel
theorem dX10_tells_132 : decode cX10_tells 132 = .ok (.ifCond .eq 33, 3) := by decide +kernel
theorem dX10_tells_135 : decode cX10_tells 135 = .ok (.aload_n 0, 1) := by decide +kernel
theorem dX10_tells_136 : decode cX10_tells 136 = .ok (.iload_n 1, 1) := by decide +kernel
theorem dX10_tells_137 : decode cX10_tells 137 = .ok (.iconst 1, 1) := by decide +kernel
theorem dX10_tells_138 : decode cX10_tells 138 = .ok (.invokevirtual 53, 3) := by decide +kernel
theorem dX10_tells_141 : decode cX10_tells 141 = .ok (.aload_n 0, 1) := by decide +kernel
theorem dX10_tells_142 : decode cX10_tells 142 = .ok (.getfield 28, 3) := by decide +kernel
theorem dX10_tells_145 : decode cX10_tells 145 = .ok (.iconst 1, 1) := by decide +kernel
theorem dX10_tells_146 : decode cX10_tells 146 = .ok (.iaload, 1) := by decide +kernel
theorem dX10_tells_147 : decode cX10_tells 147 = .ok (.if_icmp .ne 22, 3) := by decide +kernel
theorem dX10_tells_150 : decode cX10_tells 150 = .ok (.aload_n 0, 1) := by decide +kernel
theorem dX10_tells_151 : decode cX10_tells 151 = .ok (.iload_n 1, 1) := by decide +kernel
theorem dX10_tells_152 : decode cX10_tells 152 = .ok (.iconst 2, 1) := by decide +kernel
theorem dX10_tells_153 : decode cX10_tells 153 = .ok (.invokevirtual 53, 3) := by decide +kernel
theorem dX10_tells_156 : decode cX10_tells 156 = .ok (.aload_n 0, 1) := by decide +kernel
theorem dX10_tells_157 : decode cX10_tells 157 = .ok (.getfield 28, 3) := by decide +kernel
theorem dX10_tells_160 : decode cX10_tells 160 = .ok (.iconst 2, 1) := by decide +kernel
theorem dX10_tells_161 : decode cX10_tells 161 = .ok (.iaload, 1) := by decide +kernel
theorem dX10_tells_162 : decode cX10_tells 162 = .ok (.if_icmp .ne 7, 3) := by decide +kernel
theorem dX10_tells_165 : decode cX10_tells 165 = .ok (.iconst 1, 1) := by decide +kernel
theorem dX10_tells_166 : decode cX10_tells 166 = .ok (.goto 4, 3) := by decide +kernel
theorem dX10_tells_169 : decode cX10_tells 169 = .ok (.iconst 0, 1) := by decide +kernel
theorem dX10_tells_170 : decode cX10_tells 170 = .ok (.ireturn, 1) := by decide +kernel
theorem dX10_others_0 : decode cX10_others 0 = .ok (.aload_n 0, 1) := by decide +kernel
theorem dX10_others_1 : decode cX10_others 1 = .ok (.iload_n 1, 1) := by decide +kernel
theorem dX10_others_2 : decode cX10_others 2 = .ok (.iconst 0, 1) := by decide +kernel
theorem dX10_others_3 : decode cX10_others 3 = .ok (.invokevirtual 53, 3) := by decide +kernel
theorem dX10_others_6 : decode cX10_others 6 = .ok (.istore_n 3, 1) := by decide +kernel
theorem dX10_others_7 : decode cX10_others 7 = .ok (.iconst 0, 1) := by decide +kernel
theorem dX10_others_8 : decode cX10_others 8 = .ok (.istore 4, 2) := by decide +kernel
theorem dX10_others_10 : decode cX10_others 10 = .ok (.iconst 0, 1) := by decide +kernel
theorem dX10_others_11 : decode cX10_others 11 = .ok (.istore 5, 2) := by decide +kernel
theorem dX10_others_13 : decode cX10_others 13 = .ok (.iload 5, 2) := by decide +kernel
theorem dX10_others_15 : decode cX10_others 15 = .ok (.iconst 2, 1) := by decide +kernel
theorem dX10_others_16 : decode cX10_others 16 = .ok (.if_icmp .ge 104, 3) := by decide +kernel
theorem dX10_others_19 : decode cX10_others 19 = .ok (.iconst 0, 1) := by decide +kernel
theorem dX10_others_20 : decode cX10_others 20 = .ok (.istore 6, 2) := by decide +kernel
theorem dX10_others_22 : decode cX10_others 22 = .ok (.iload 6, 2) := by decide +kernel
theorem dX10_others_24 : decode cX10_others 24 = .ok (.aload_n 0, 1) := by decide +kernel
theorem dX10_others_25 : decode cX10_others 25 = .ok (.iload_n 1, 1) := by decide +kernel
theorem dX10_others_26 : decode cX10_others 26 = .ok (.bipush 7, 2) := by decide +kernel
theorem dX10_others_28 : decode cX10_others 28 = .ok (.iload 5, 2) := by decide +kernel
theorem dX10_others_30 : decode cX10_others 30 = .ok (.iadd, 1) := by decide +kernel
theorem dX10_others_31 : decode cX10_others 31 = .ok (.invokevirtual 53, 3) := by decide +kernel
theorem dX10_others_34 : decode cX10_others 34 = .ok (.if_icmp .ge 80, 3) := by decide +kernel
theorem dX10_others_37 : decode cX10_others 37 = .ok (.aload_n 0, 1) := by decide +kernel
theorem dX10_others_38 : decode cX10_others 38 = .ok (.iload_n 1, 1) := by decide +kernel
theorem dX10_others_39 : decode cX10_others 39 = .ok (.iload 5, 2) := by decide +kernel
theorem dX10_others_41 : decode cX10_others 41 = .ok (.iload 6, 2) := by decide +kernel
theorem dX10_others_43 : decode cX10_others 43 = .ok (.invokevirtual 117, 3) := by decide +kernel
theorem dX10_others_46 : decode cX10_others 46 = .ok (.ifCond .eq 62, 3) := by decide +kernel
theorem dX10_others_49 : decode cX10_others 49 = .ok (.aload_n 0, 1) := by decide +kernel
theorem dX10_others_50 : decode cX10_others 50 = .ok (.iload_n 1, 1) := by decide +kernel
theorem dX10_others_51 : decode cX10_others 51 = .ok (.iload 5, 2) := by decide +kernel
theorem dX10_others_53 : decode cX10_others 53 = .ok (.iload 6, 2) := by decide +kernel
theorem dX10_others_55 : decode cX10_others 55 = .ok (.invokevirtual 96, 3) := by decide +kernel
theorem dX10_others_58 : decode cX10_others 58 = .ok (.istore 7, 2) := by decide +kernel
theorem dX10_others_60 : decode cX10_others 60 = .ok (.aload_n 0, 1) := by decide +kernel
theorem dX10_others_61 : decode cX10_others 61 = .ok (.getfield 7, 3) := by decide +kernel
theorem dX10_others_64 : decode cX10_others 64 = .ok (.iload_n 1, 1) := by decide +kernel
theorem dX10_others_65 : decode cX10_others 65 = .ok (.invokestatic 68, 3) := by decide +kernel
theorem dX10_others_68 : decode cX10_others 68 = .ok (.iconst 0, 1) := by decide +kernel
theorem dX10_others_69 : decode cX10_others 69 = .ok (.iadd, 1) := by decide +kernel
theorem dX10_others_70 : decode cX10_others 70 = .ok (.iload_n 2, 1) := by decide +kernel
theorem dX10_others_71 : decode cX10_others 71 = .ok (.iastore, 1) := by decide +kernel
theorem dX10_others_72 : decode cX10_others 72 = .ok (.iload 4, 2) := by decide +kernel
theorem dX10_others_74 : decode cX10_others 74 = .ok (.aload_n 0, 1) := by decide +kernel
theorem dX10_others_75 : decode cX10_others 75 = .ok (.iload_n 1, 1) := by decide +kernel
theorem dX10_others_76 : decode cX10_others 76 = .ok (.iload 5, 2) := by decide +kernel
theorem dX10_others_78 : decode cX10_others 78 = .ok (.iload 6, 2) := by decide +kernel
theorem dX10_others_80 : decode cX10_others 80 = .ok (.invokevirtual 96, 3) := by decide +kernel
theorem dX10_others_83 : decode cX10_others 83 = .ok (.iload 7, 2) := by decide +kernel
theorem dX10_others_85 : decode cX10_others 85 = .ok (.if_icmp .eq 7, 3) := by decide +kernel
theorem dX10_others_88 : decode cX10_others 88 = .ok (.iconst 1, 1) := by decide +kernel
theorem dX10_others_89 : decode cX10_others 89 = .ok (.goto 4, 3) := by decide +kernel
theorem dX10_others_92 : decode cX10_others 92 = .ok (.iconst 0, 1) := by decide +kernel
theorem dX10_others_93 : decode cX10_others 93 = .ok (.iadd, 1) := by decide +kernel
theorem dX10_others_94 : decode cX10_others 94 = .ok (.istore 4, 2) := by decide +kernel
theorem dX10_others_96 : decode cX10_others 96 = .ok (.aload_n 0, 1) := by decide +kernel
theorem dX10_others_97 : decode cX10_others 97 = .ok (.getfield 7, 3) := by decide +kernel
theorem dX10_others_100 : decode cX10_others 100 = .ok (.iload_n 1, 1) := by decide +kernel
theorem dX10_others_101 : decode cX10_others 101 = .ok (.invokestatic 68, 3) := by decide +kernel
theorem dX10_others_104 : decode cX10_others 104 = .ok (.iconst 0, 1) := by decide +kernel
theorem dX10_others_105 : decode cX10_others 105 = .ok (.iadd, 1) := by decide +kernel
theorem dX10_others_106 : decode cX10_others 106 = .ok (.iload_n 3, 1) := by decide +kernel
theorem dX10_others_107 : decode cX10_others 107 = .ok (.iastore, 1) := by decide +kernel
theorem dX10_others_108 : decode cX10_others 108 = .ok (.iinc 6 1, 3) := by decide +kernel
theorem dX10_others_111 : decode cX10_others 111 = .ok (.goto (-89), 3) := by decide +kernel
theorem dX10_others_114 : decode cX10_others 114 = .ok (.iinc 5 1, 3) := by decide +kernel
theorem dX10_others_117 : decode cX10_others 117 = .ok (.goto (-104), 3) := by decide +kernel
theorem dX10_others_120 : decode cX10_others 120 = .ok (.iload 4, 2) := by decide +kernel
theorem dX10_others_122 : decode cX10_others 122 = .ok (.ireturn, 1) := by decide +kernel
theorem dX10_changedBy_0 : decode cX10_changedBy 0 = .ok (.aload_n 0, 1) := by decide +kernel
theorem dX10_changedBy_1 : decode cX10_changedBy 1 = .ok (.aload_n 0, 1) := by decide +kernel
theorem dX10_changedBy_2 : decode cX10_changedBy 2 = .ok (.iload_n 1, 1) := by decide +kernel
theorem dX10_changedBy_3 : decode cX10_changedBy 3 = .ok (.invokevirtual 46, 3) := by decide +kernel
theorem dX10_changedBy_6 : decode cX10_changedBy 6 = .ok (.ifCond .ne 7, 3) := by decide +kernel
theorem dX10_changedBy_9 : decode cX10_changedBy 9 = .ok (.iconst 1, 1) := by decide +kernel
theorem dX10_changedBy_10 : decode cX10_changedBy 10 = .ok (.goto 19, 3) := by decide +kernel
theorem dX10_changedBy_13 : decode cX10_changedBy 13 = .ok (.iload_n 2, 1) := by decide +kernel
theorem dX10_changedBy_14 : decode cX10_changedBy 14 = .ok (.bipush (-7), 2) := by decide +kernel
theorem dX10_changedBy_16 : decode cX10_changedBy 16 = .ok (.bipush 7, 2) := by decide +kernel
theorem dX10_changedBy_18 : decode cX10_changedBy 18 = .ok (.invokestatic 42, 3) := by decide +kernel
theorem dX10_changedBy_21 : decode cX10_changedBy 21 = .ok (.ifCond .eq 7, 3) := by decide +kernel
theorem dX10_changedBy_24 : decode cX10_changedBy 24 = .ok (.iconst 0, 1) := by decide +kernel
theorem dX10_changedBy_25 : decode cX10_changedBy 25 = .ok (.goto 4, 3) := by decide +kernel
theorem dX10_changedBy_28 : decode cX10_changedBy 28 = .ok (.iconst 2, 1) := by decide +kernel
theorem dX10_changedBy_29 : decode cX10_changedBy 29 = .ok (.invokevirtual 38, 3) := by decide +kernel
theorem dX10_changedBy_32 : decode cX10_changedBy 32 = .ok (.ifCond .eq 7, 3) := by decide +kernel
theorem dX10_changedBy_35 : decode cX10_changedBy 35 = .ok (.iconst 0, 1) := by decide +kernel
theorem dX10_changedBy_36 : decode cX10_changedBy 36 = .ok (.goto 9, 3) := by decide +kernel
theorem dX10_changedBy_39 : decode cX10_changedBy 39 = .ok (.aload_n 0, 1) := by decide +kernel
theorem dX10_changedBy_40 : decode cX10_changedBy 40 = .ok (.iload_n 1, 1) := by decide +kernel
theorem dX10_changedBy_41 : decode cX10_changedBy 41 = .ok (.iload_n 2, 1) := by decide +kernel
theorem dX10_changedBy_42 : decode cX10_changedBy 42 = .ok (.invokevirtual 270, 3) := by decide +kernel
theorem dX10_changedBy_45 : decode cX10_changedBy 45 = .ok (.ireturn, 1) := by decide +kernel
theorem dX10_nearestKey_0 : decode cX10_nearestKey 0 = .ok (.aload_n 0, 1) := by decide +kernel
theorem dX10_nearestKey_1 : decode cX10_nearestKey 1 = .ok (.aload_n 0, 1) := by decide +kernel
theorem dX10_nearestKey_2 : decode cX10_nearestKey 2 = .ok (.iload_n 1, 1) := by decide +kernel
theorem dX10_nearestKey_3 : decode cX10_nearestKey 3 = .ok (.invokevirtual 46, 3) := by decide +kernel
theorem dX10_nearestKey_6 : decode cX10_nearestKey 6 = .ok (.ifCond .eq 7, 3) := by decide +kernel
theorem dX10_nearestKey_9 : decode cX10_nearestKey 9 = .ok (.iconst 0, 1) := by decide +kernel
theorem dX10_nearestKey_10 : decode cX10_nearestKey 10 = .ok (.goto 4, 3) := by decide +kernel
theorem dX10_nearestKey_13 : decode cX10_nearestKey 13 = .ok (.iconst 1, 1) := by decide +kernel
theorem dX10_nearestKey_14 : decode cX10_nearestKey 14 = .ok (.invokevirtual 38, 3) := by decide +kernel
theorem dX10_nearestKey_17 : decode cX10_nearestKey 17 = .ok (.ifCond .eq 5, 3) := by decide +kernel
theorem dX10_nearestKey_20 : decode cX10_nearestKey 20 = .ok (.iconst 0, 1) := by decide +kernel
theorem dX10_nearestKey_21 : decode cX10_nearestKey 21 = .ok (.ireturn, 1) := by decide +kernel
theorem dX10_nearestKey_22 : decode cX10_nearestKey 22 = .ok (.sipush (-1000), 3) := by decide +kernel
theorem dX10_nearestKey_25 : decode cX10_nearestKey 25 = .ok (.istore_n 2, 1) := by decide +kernel
theorem dX10_nearestKey_26 : decode cX10_nearestKey 26 = .ok (.iconst 0, 1) := by decide +kernel
theorem dX10_nearestKey_27 : decode cX10_nearestKey 27 = .ok (.istore_n 3, 1) := by decide +kernel
theorem dX10_nearestKey_28 : decode cX10_nearestKey 28 = .ok (.bipush (-7), 2) := by decide +kernel
theorem dX10_nearestKey_30 : decode cX10_nearestKey 30 = .ok (.istore 4, 2) := by decide +kernel
theorem dX10_nearestKey_32 : decode cX10_nearestKey 32 = .ok (.iload 4, 2) := by decide +kernel
theorem dX10_nearestKey_34 : decode cX10_nearestKey 34 = .ok (.bipush 7, 2) := by decide +kernel
theorem dX10_nearestKey_36 : decode cX10_nearestKey 36 = .ok (.if_icmp .gt 89, 3) := by decide +kernel
theorem dX10_nearestKey_39 : decode cX10_nearestKey 39 = .ok (.iload 4, 2) := by decide +kernel
theorem dX10_nearestKey_41 : decode cX10_nearestKey 41 = .ok (.aload_n 0, 1) := by decide +kernel
theorem dX10_nearestKey_42 : decode cX10_nearestKey 42 = .ok (.iload_n 1, 1) := by decide +kernel
theorem dX10_nearestKey_43 : decode cX10_nearestKey 43 = .ok (.iconst 0, 1) := by decide +kernel
theorem dX10_nearestKey_44 : decode cX10_nearestKey 44 = .ok (.invokevirtual 53, 3) := by decide +kernel
theorem dX10_nearestKey_47 : decode cX10_nearestKey 47 = .ok (.if_icmp .ne 8, 3) := by decide +kernel
theorem dX10_nearestKey_50 : decode cX10_nearestKey 50 = .ok (.bipush 72, 2) := by decide +kernel
theorem dX10_nearestKey_52 : decode cX10_nearestKey 52 = .ok (.goto 10, 3) := by decide +kernel
theorem dX10_nearestKey_55 : decode cX10_nearestKey 55 = .ok (.aload_n 0, 1) := by decide +kernel
theorem dX10_nearestKey_56 : decode cX10_nearestKey 56 = .ok (.iload_n 1, 1) := by decide +kernel
theorem dX10_nearestKey_57 : decode cX10_nearestKey 57 = .ok (.iload 4, 2) := by decide +kernel
theorem dX10_nearestKey_59 : decode cX10_nearestKey 59 = .ok (.invokevirtual 270, 3) := by decide +kernel
theorem dX10_nearestKey_62 : decode cX10_nearestKey 62 = .ok (.istore 5, 2) := by decide +kernel
theorem dX10_nearestKey_64 : decode cX10_nearestKey 64 = .ok (.iload 4, 2) := by decide +kernel
theorem dX10_nearestKey_66 : decode cX10_nearestKey 66 = .ok (.aload_n 0, 1) := by decide +kernel
theorem dX10_nearestKey_67 : decode cX10_nearestKey 67 = .ok (.iload_n 1, 1) := by decide +kernel
theorem dX10_nearestKey_68 : decode cX10_nearestKey 68 = .ok (.iconst 0, 1) := by decide +kernel
theorem dX10_nearestKey_69 : decode cX10_nearestKey 69 = .ok (.invokevirtual 53, 3) := by decide +kernel
theorem dX10_nearestKey_72 : decode cX10_nearestKey 72 = .ok (.if_icmp .eq 20, 3) := by decide +kernel
theorem dX10_nearestKey_75 : decode cX10_nearestKey 75 = .ok (.iload_n 2, 1) := by decide +kernel
theorem dX10_nearestKey_76 : decode cX10_nearestKey 76 = .ok (.sipush (-1000), 3) := by decide +kernel
theorem dX10_nearestKey_79 : decode cX10_nearestKey 79 = .ok (.if_icmp .eq 9, 3) := by decide +kernel
theorem dX10_nearestKey_82 : decode cX10_nearestKey 82 = .ok (.iload 5, 2) := by decide +kernel
theorem dX10_nearestKey_84 : decode cX10_nearestKey 84 = .ok (.iload_n 3, 1) := by decide +kernel
theorem dX10_nearestKey_85 : decode cX10_nearestKey 85 = .ok (.if_icmp .ge 7, 3) := by decide +kernel
theorem dX10_nearestKey_88 : decode cX10_nearestKey 88 = .ok (.iconst 1, 1) := by decide +kernel
theorem dX10_nearestKey_89 : decode cX10_nearestKey 89 = .ok (.goto 4, 3) := by decide +kernel
theorem dX10_nearestKey_92 : decode cX10_nearestKey 92 = .ok (.iconst 0, 1) := by decide +kernel
theorem dX10_nearestKey_93 : decode cX10_nearestKey 93 = .ok (.istore 6, 2) := by decide +kernel
theorem dX10_nearestKey_95 : decode cX10_nearestKey 95 = .ok (.iload 6, 2) := by decide +kernel
theorem dX10_nearestKey_97 : decode cX10_nearestKey 97 = .ok (.ifCond .eq 8, 3) := by decide +kernel
theorem dX10_nearestKey_100 : decode cX10_nearestKey 100 = .ok (.iload 4, 2) := by decide +kernel
theorem dX10_nearestKey_102 : decode cX10_nearestKey 102 = .ok (.goto 4, 3) := by decide +kernel
theorem dX10_nearestKey_105 : decode cX10_nearestKey 105 = .ok (.iload_n 2, 1) := by decide +kernel
theorem dX10_nearestKey_106 : decode cX10_nearestKey 106 = .ok (.istore_n 2, 1) := by decide +kernel
theorem dX10_nearestKey_107 : decode cX10_nearestKey 107 = .ok (.iload 6, 2) := by decide +kernel
theorem dX10_nearestKey_109 : decode cX10_nearestKey 109 = .ok (.ifCond .eq 8, 3) := by decide +kernel
theorem dX10_nearestKey_112 : decode cX10_nearestKey 112 = .ok (.iload 5, 2) := by decide +kernel
theorem dX10_nearestKey_114 : decode cX10_nearestKey 114 = .ok (.goto 4, 3) := by decide +kernel
theorem dX10_nearestKey_117 : decode cX10_nearestKey 117 = .ok (.iload_n 3, 1) := by decide +kernel
theorem dX10_nearestKey_118 : decode cX10_nearestKey 118 = .ok (.istore_n 3, 1) := by decide +kernel
theorem dX10_nearestKey_119 : decode cX10_nearestKey 119 = .ok (.iinc 4 1, 3) := by decide +kernel
theorem dX10_nearestKey_122 : decode cX10_nearestKey 122 = .ok (.goto (-90), 3) := by decide +kernel
theorem dX10_nearestKey_125 : decode cX10_nearestKey 125 = .ok (.iload_n 2, 1) := by decide +kernel
theorem dX10_nearestKey_126 : decode cX10_nearestKey 126 = .ok (.ireturn, 1) := by decide +kernel
theorem dX10_needlessSigns_0 : decode cX10_needlessSigns 0 = .ok (.aload_n 0, 1) := by decide +kernel
theorem dX10_needlessSigns_1 : decode cX10_needlessSigns 1 = .ok (.aload_n 0, 1) := by decide +kernel
theorem dX10_needlessSigns_2 : decode cX10_needlessSigns 2 = .ok (.iload_n 1, 1) := by decide +kernel
theorem dX10_needlessSigns_3 : decode cX10_needlessSigns 3 = .ok (.invokevirtual 46, 3) := by decide +kernel
theorem dX10_needlessSigns_6 : decode cX10_needlessSigns 6 = .ok (.ifCond .eq 7, 3) := by decide +kernel
theorem dX10_needlessSigns_9 : decode cX10_needlessSigns 9 = .ok (.iconst 0, 1) := by decide +kernel
theorem dX10_needlessSigns_10 : decode cX10_needlessSigns 10 = .ok (.goto 4, 3) := by decide +kernel
theorem dX10_needlessSigns_13 : decode cX10_needlessSigns 13 = .ok (.iconst 1, 1) := by decide +kernel
theorem dX10_needlessSigns_14 : decode cX10_needlessSigns 14 = .ok (.invokevirtual 38, 3) := by decide +kernel
theorem dX10_needlessSigns_17 : decode cX10_needlessSigns 17 = .ok (.ifCond .eq 5, 3) := by decide +kernel
theorem dX10_needlessSigns_20 : decode cX10_needlessSigns 20 = .ok (.iconst 0, 1) := by decide +kernel
theorem dX10_needlessSigns_21 : decode cX10_needlessSigns 21 = .ok (.ireturn, 1) := by decide +kernel
theorem dX10_needlessSigns_22 : decode cX10_needlessSigns 22 = .ok (.iconst 0, 1) := by decide +kernel
theorem dX10_needlessSigns_23 : decode cX10_needlessSigns 23 = .ok (.istore_n 2, 1) := by decide +kernel
theorem dX10_needlessSigns_24 : decode cX10_needlessSigns 24 = .ok (.iconst 0, 1) := by decide +kernel
theorem dX10_needlessSigns_25 : decode cX10_needlessSigns 25 = .ok (.istore_n 3, 1) := by decide +kernel
theorem dX10_needlessSigns_26 : decode cX10_needlessSigns 26 = .ok (.iload_n 3, 1) := by decide +kernel
theorem dX10_needlessSigns_27 : decode cX10_needlessSigns 27 = .ok (.iconst 2, 1) := by decide +kernel
theorem dX10_needlessSigns_28 : decode cX10_needlessSigns 28 = .ok (.if_icmp .ge 98, 3) := by decide +kernel
theorem dX10_needlessSigns_31 : decode cX10_needlessSigns 31 = .ok (.iconst 0, 1) := by decide +kernel
theorem dX10_needlessSigns_32 : decode cX10_needlessSigns 32 = .ok (.istore 4, 2) := by decide +kernel
theorem dX10_needlessSigns_34 : decode cX10_needlessSigns 34 = .ok (.iload 4, 2) := by decide +kernel
theorem dX10_needlessSigns_36 : decode cX10_needlessSigns 36 = .ok (.aload_n 0, 1) := by decide +kernel
theorem dX10_needlessSigns_37 : decode cX10_needlessSigns 37 = .ok (.iload_n 1, 1) := by decide +kernel
theorem dX10_needlessSigns_38 : decode cX10_needlessSigns 38 = .ok (.bipush 7, 2) := by decide +kernel
theorem dX10_needlessSigns_40 : decode cX10_needlessSigns 40 = .ok (.iload_n 3, 1) := by decide +kernel
theorem dX10_needlessSigns_41 : decode cX10_needlessSigns 41 = .ok (.iadd, 1) := by decide +kernel
theorem dX10_needlessSigns_42 : decode cX10_needlessSigns 42 = .ok (.invokevirtual 53, 3) := by decide +kernel
theorem dX10_needlessSigns_45 : decode cX10_needlessSigns 45 = .ok (.if_icmp .ge 75, 3) := by decide +kernel
theorem dX10_needlessSigns_48 : decode cX10_needlessSigns 48 = .ok (.iload_n 1, 1) := by decide +kernel
theorem dX10_needlessSigns_49 : decode cX10_needlessSigns 49 = .ok (.iload_n 3, 1) := by decide +kernel
theorem dX10_needlessSigns_50 : decode cX10_needlessSigns 50 = .ok (.iload 4, 2) := by decide +kernel
theorem dX10_needlessSigns_52 : decode cX10_needlessSigns 52 = .ok (.invokestatic 57, 3) := by decide +kernel
theorem dX10_needlessSigns_55 : decode cX10_needlessSigns 55 = .ok (.iconst 1, 1) := by decide +kernel
theorem dX10_needlessSigns_56 : decode cX10_needlessSigns 56 = .ok (.iadd, 1) := by decide +kernel
theorem dX10_needlessSigns_57 : decode cX10_needlessSigns 57 = .ok (.istore 5, 2) := by decide +kernel
theorem dX10_needlessSigns_59 : decode cX10_needlessSigns 59 = .ok (.aload_n 0, 1) := by decide +kernel
theorem dX10_needlessSigns_60 : decode cX10_needlessSigns 60 = .ok (.getfield 7, 3) := by decide +kernel
theorem dX10_needlessSigns_63 : decode cX10_needlessSigns 63 = .ok (.iload 5, 2) := by decide +kernel
theorem dX10_needlessSigns_65 : decode cX10_needlessSigns 65 = .ok (.iaload, 1) := by decide +kernel
theorem dX10_needlessSigns_66 : decode cX10_needlessSigns 66 = .ok (.istore 6, 2) := by decide +kernel
theorem dX10_needlessSigns_68 : decode cX10_needlessSigns 68 = .ok (.iload 6, 2) := by decide +kernel
theorem dX10_needlessSigns_70 : decode cX10_needlessSigns 70 = .ok (.ifCond .le 44, 3) := by decide +kernel
theorem dX10_needlessSigns_73 : decode cX10_needlessSigns 73 = .ok (.aload_n 0, 1) := by decide +kernel
theorem dX10_needlessSigns_74 : decode cX10_needlessSigns 74 = .ok (.getfield 7, 3) := by decide +kernel
theorem dX10_needlessSigns_77 : decode cX10_needlessSigns 77 = .ok (.iload 5, 2) := by decide +kernel
theorem dX10_needlessSigns_79 : decode cX10_needlessSigns 79 = .ok (.iconst 0, 1) := by decide +kernel
theorem dX10_needlessSigns_80 : decode cX10_needlessSigns 80 = .ok (.iastore, 1) := by decide +kernel
theorem dX10_needlessSigns_81 : decode cX10_needlessSigns 81 = .ok (.iload_n 2, 1) := by decide +kernel
theorem dX10_needlessSigns_82 : decode cX10_needlessSigns 82 = .ok (.aload_n 0, 1) := by decide +kernel
theorem dX10_needlessSigns_83 : decode cX10_needlessSigns 83 = .ok (.iload_n 1, 1) := by decide +kernel
theorem dX10_needlessSigns_84 : decode cX10_needlessSigns 84 = .ok (.iload_n 3, 1) := by decide +kernel
theorem dX10_needlessSigns_85 : decode cX10_needlessSigns 85 = .ok (.iload 4, 2) := by decide +kernel
theorem dX10_needlessSigns_87 : decode cX10_needlessSigns 87 = .ok (.invokevirtual 96, 3) := by decide +kernel
theorem dX10_needlessSigns_90 : decode cX10_needlessSigns 90 = .ok (.iload 6, 2) := by decide +kernel
theorem dX10_needlessSigns_92 : decode cX10_needlessSigns 92 = .ok (.invokestatic 87, 3) := by decide +kernel
theorem dX10_needlessSigns_95 : decode cX10_needlessSigns 95 = .ok (.if_icmp .ne 7, 3) := by decide +kernel
theorem dX10_needlessSigns_98 : decode cX10_needlessSigns 98 = .ok (.iconst 1, 1) := by decide +kernel
theorem dX10_needlessSigns_99 : decode cX10_needlessSigns 99 = .ok (.goto 4, 3) := by decide +kernel
theorem dX10_needlessSigns_102 : decode cX10_needlessSigns 102 = .ok (.iconst 0, 1) := by decide +kernel
theorem dX10_needlessSigns_103 : decode cX10_needlessSigns 103 = .ok (.iadd, 1) := by decide +kernel
theorem dX10_needlessSigns_104 : decode cX10_needlessSigns 104 = .ok (.istore_n 2, 1) := by decide +kernel
theorem dX10_needlessSigns_105 : decode cX10_needlessSigns 105 = .ok (.aload_n 0, 1) := by decide +kernel
theorem dX10_needlessSigns_106 : decode cX10_needlessSigns 106 = .ok (.getfield 7, 3) := by decide +kernel
theorem dX10_needlessSigns_109 : decode cX10_needlessSigns 109 = .ok (.iload 5, 2) := by decide +kernel
theorem dX10_needlessSigns_111 : decode cX10_needlessSigns 111 = .ok (.iload 6, 2) := by decide +kernel
theorem dX10_needlessSigns_113 : decode cX10_needlessSigns 113 = .ok (.iastore, 1) := by decide +kernel
theorem dX10_needlessSigns_114 : decode cX10_needlessSigns 114 = .ok (.iinc 4 1, 3) := by decide +kernel
theorem dX10_needlessSigns_117 : decode cX10_needlessSigns 117 = .ok (.goto (-83), 3) := by decide +kernel
theorem dX10_needlessSigns_120 : decode cX10_needlessSigns 120 = .ok (.iinc 3 1, 3) := by decide +kernel
theorem dX10_needlessSigns_123 : decode cX10_needlessSigns 123 = .ok (.goto (-97), 3) := by decide +kernel
theorem dX10_needlessSigns_126 : decode cX10_needlessSigns 126 = .ok (.iload_n 2, 1) := by decide +kernel
theorem dX10_needlessSigns_127 : decode cX10_needlessSigns 127 = .ok (.ireturn, 1) := by decide +kernel
theorem dX10_mix_0 : decode cX10_mix 0 = .ok (.aload_n 0, 1) := by decide +kernel
theorem dX10_mix_1 : decode cX10_mix 1 = .ok (.ldc2_w 273, 3) := by decide +kernel
theorem dX10_mix_4 : decode cX10_mix 4 = .ok (.aload_n 0, 1) := by decide +kernel
theorem dX10_mix_5 : decode cX10_mix 5 = .ok (.getfield 275, 3) := by decide +kernel
theorem dX10_mix_8 : decode cX10_mix 8 = .ok (.lmul, 1) := by decide +kernel
theorem dX10_mix_9 : decode cX10_mix 9 = .ok (.iload_n 1, 1) := by decide +kernel
theorem dX10_mix_10 : decode cX10_mix 10 = .ok (.i2l, 1) := by decide +kernel
theorem dX10_mix_11 : decode cX10_mix 11 = .ok (.ladd, 1) := by decide +kernel
theorem dX10_mix_12 : decode cX10_mix 12 = .ok (.putfield 275, 3) := by decide +kernel
theorem dX10_mix_15 : decode cX10_mix 15 = .ok (.return_, 1) := by decide +kernel
theorem dX10_mixMeasure_0 : decode cX10_mixMeasure 0 = .ok (.iconst 0, 1) := by decide +kernel
theorem dX10_mixMeasure_1 : decode cX10_mixMeasure 1 = .ok (.istore_n 2, 1) := by decide +kernel
theorem dX10_mixMeasure_2 : decode cX10_mixMeasure 2 = .ok (.iload_n 2, 1) := by decide +kernel
theorem dX10_mixMeasure_3 : decode cX10_mixMeasure 3 = .ok (.bipush 12, 2) := by decide +kernel
theorem dX10_mixMeasure_5 : decode cX10_mixMeasure 5 = .ok (.if_icmp .ge 19, 3) := by decide +kernel
theorem dX10_mixMeasure_8 : decode cX10_mixMeasure 8 = .ok (.aload_n 0, 1) := by decide +kernel
theorem dX10_mixMeasure_9 : decode cX10_mixMeasure 9 = .ok (.aload_n 0, 1) := by decide +kernel
theorem dX10_mixMeasure_10 : decode cX10_mixMeasure 10 = .ok (.iload_n 1, 1) := by decide +kernel
theorem dX10_mixMeasure_11 : decode cX10_mixMeasure 11 = .ok (.iload_n 2, 1) := by decide +kernel
theorem dX10_mixMeasure_12 : decode cX10_mixMeasure 12 = .ok (.invokevirtual 114, 3) := by decide +kernel
theorem dX10_mixMeasure_15 : decode cX10_mixMeasure 15 = .ok (.invokevirtual 279, 3) := by decide +kernel
theorem dX10_mixMeasure_18 : decode cX10_mixMeasure 18 = .ok (.iinc 2 1, 3) := by decide +kernel
theorem dX10_mixMeasure_21 : decode cX10_mixMeasure 21 = .ok (.goto (-19), 3) := by decide +kernel
theorem dX10_mixMeasure_24 : decode cX10_mixMeasure 24 = .ok (.iconst 0, 1) := by decide +kernel
theorem dX10_mixMeasure_25 : decode cX10_mixMeasure 25 = .ok (.istore_n 2, 1) := by decide +kernel
theorem dX10_mixMeasure_26 : decode cX10_mixMeasure 26 = .ok (.iload_n 2, 1) := by decide +kernel
theorem dX10_mixMeasure_27 : decode cX10_mixMeasure 27 = .ok (.iconst 2, 1) := by decide +kernel
theorem dX10_mixMeasure_28 : decode cX10_mixMeasure 28 = .ok (.if_icmp .ge 59, 3) := by decide +kernel
theorem dX10_mixMeasure_31 : decode cX10_mixMeasure 31 = .ok (.iconst 0, 1) := by decide +kernel
theorem dX10_mixMeasure_32 : decode cX10_mixMeasure 32 = .ok (.istore_n 3, 1) := by decide +kernel
theorem dX10_mixMeasure_33 : decode cX10_mixMeasure 33 = .ok (.iload_n 3, 1) := by decide +kernel
theorem dX10_mixMeasure_34 : decode cX10_mixMeasure 34 = .ok (.aload_n 0, 1) := by decide +kernel
theorem dX10_mixMeasure_35 : decode cX10_mixMeasure 35 = .ok (.iload_n 1, 1) := by decide +kernel
theorem dX10_mixMeasure_36 : decode cX10_mixMeasure 36 = .ok (.bipush 7, 2) := by decide +kernel
theorem dX10_mixMeasure_38 : decode cX10_mixMeasure 38 = .ok (.iload_n 2, 1) := by decide +kernel
theorem dX10_mixMeasure_39 : decode cX10_mixMeasure 39 = .ok (.iadd, 1) := by decide +kernel
theorem dX10_mixMeasure_40 : decode cX10_mixMeasure 40 = .ok (.invokevirtual 53, 3) := by decide +kernel
theorem dX10_mixMeasure_43 : decode cX10_mixMeasure 43 = .ok (.if_icmp .ge 38, 3) := by decide +kernel
theorem dX10_mixMeasure_46 : decode cX10_mixMeasure 46 = .ok (.iconst 0, 1) := by decide +kernel
theorem dX10_mixMeasure_47 : decode cX10_mixMeasure 47 = .ok (.istore 4, 2) := by decide +kernel
theorem dX10_mixMeasure_49 : decode cX10_mixMeasure 49 = .ok (.iload 4, 2) := by decide +kernel
theorem dX10_mixMeasure_51 : decode cX10_mixMeasure 51 = .ok (.bipush 10, 2) := by decide +kernel
theorem dX10_mixMeasure_53 : decode cX10_mixMeasure 53 = .ok (.if_icmp .ge 22, 3) := by decide +kernel
theorem dX10_mixMeasure_56 : decode cX10_mixMeasure 56 = .ok (.aload_n 0, 1) := by decide +kernel
theorem dX10_mixMeasure_57 : decode cX10_mixMeasure 57 = .ok (.aload_n 0, 1) := by decide +kernel
theorem dX10_mixMeasure_58 : decode cX10_mixMeasure 58 = .ok (.iload_n 1, 1) := by decide +kernel
theorem dX10_mixMeasure_59 : decode cX10_mixMeasure 59 = .ok (.iload_n 2, 1) := by decide +kernel
theorem dX10_mixMeasure_60 : decode cX10_mixMeasure 60 = .ok (.iload_n 3, 1) := by decide +kernel
theorem dX10_mixMeasure_61 : decode cX10_mixMeasure 61 = .ok (.iload 4, 2) := by decide +kernel
theorem dX10_mixMeasure_63 : decode cX10_mixMeasure 63 = .ok (.invokevirtual 129, 3) := by decide +kernel
theorem dX10_mixMeasure_66 : decode cX10_mixMeasure 66 = .ok (.invokevirtual 279, 3) := by decide +kernel
theorem dX10_mixMeasure_69 : decode cX10_mixMeasure 69 = .ok (.iinc 4 1, 3) := by decide +kernel
theorem dX10_mixMeasure_72 : decode cX10_mixMeasure 72 = .ok (.goto (-23), 3) := by decide +kernel
theorem dX10_mixMeasure_75 : decode cX10_mixMeasure 75 = .ok (.iinc 3 1, 3) := by decide +kernel
theorem dX10_mixMeasure_78 : decode cX10_mixMeasure 78 = .ok (.goto (-45), 3) := by decide +kernel
theorem dX10_mixMeasure_81 : decode cX10_mixMeasure 81 = .ok (.iinc 2 1, 3) := by decide +kernel
theorem dX10_mixMeasure_84 : decode cX10_mixMeasure 84 = .ok (.goto (-58), 3) := by decide +kernel
theorem dX10_mixMeasure_87 : decode cX10_mixMeasure 87 = .ok (.aload_n 0, 1) := by decide +kernel
theorem dX10_mixMeasure_88 : decode cX10_mixMeasure 88 = .ok (.aload_n 0, 1) := by decide +kernel
theorem dX10_mixMeasure_89 : decode cX10_mixMeasure 89 = .ok (.iload_n 1, 1) := by decide +kernel
theorem dX10_mixMeasure_90 : decode cX10_mixMeasure 90 = .ok (.invokevirtual 136, 3) := by decide +kernel
theorem dX10_mixMeasure_93 : decode cX10_mixMeasure 93 = .ok (.invokevirtual 279, 3) := by decide +kernel
theorem dX10_mixMeasure_96 : decode cX10_mixMeasure 96 = .ok (.aload_n 0, 1) := by decide +kernel
theorem dX10_mixMeasure_97 : decode cX10_mixMeasure 97 = .ok (.aload_n 0, 1) := by decide +kernel
theorem dX10_mixMeasure_98 : decode cX10_mixMeasure 98 = .ok (.iload_n 1, 1) := by decide +kernel
theorem dX10_mixMeasure_99 : decode cX10_mixMeasure 99 = .ok (.invokevirtual 161, 3) := by decide +kernel
theorem dX10_mixMeasure_102 : decode cX10_mixMeasure 102 = .ok (.invokevirtual 279, 3) := by decide +kernel
theorem dX10_mixMeasure_105 : decode cX10_mixMeasure 105 = .ok (.aload_n 0, 1) := by decide +kernel
theorem dX10_mixMeasure_106 : decode cX10_mixMeasure 106 = .ok (.iload_n 1, 1) := by decide +kernel
theorem dX10_mixMeasure_107 : decode cX10_mixMeasure 107 = .ok (.invokevirtual 199, 3) := by decide +kernel
theorem dX10_mixMeasure_110 : decode cX10_mixMeasure 110 = .ok (.iconst 0, 1) := by decide +kernel
theorem dX10_mixMeasure_111 : decode cX10_mixMeasure 111 = .ok (.istore_n 2, 1) := by decide +kernel
theorem dX10_mixMeasure_112 : decode cX10_mixMeasure 112 = .ok (.iload_n 2, 1) := by decide +kernel
theorem dX10_mixMeasure_113 : decode cX10_mixMeasure 113 = .ok (.aload_n 0, 1) := by decide +kernel
theorem dX10_mixMeasure_114 : decode cX10_mixMeasure 114 = .ok (.getfield 170, 3) := by decide +kernel
theorem dX10_mixMeasure_117 : decode cX10_mixMeasure 117 = .ok (.if_icmp .ge 19, 3) := by decide +kernel
theorem dX10_mixMeasure_120 : decode cX10_mixMeasure 120 = .ok (.aload_n 0, 1) := by decide +kernel
theorem dX10_mixMeasure_121 : decode cX10_mixMeasure 121 = .ok (.aload_n 0, 1) := by decide +kernel
theorem dX10_mixMeasure_122 : decode cX10_mixMeasure 122 = .ok (.getfield 25, 3) := by decide +kernel
theorem dX10_mixMeasure_125 : decode cX10_mixMeasure 125 = .ok (.iload_n 2, 1) := by decide +kernel
theorem dX10_mixMeasure_126 : decode cX10_mixMeasure 126 = .ok (.iaload, 1) := by decide +kernel
theorem dX10_mixMeasure_127 : decode cX10_mixMeasure 127 = .ok (.invokevirtual 279, 3) := by decide +kernel
theorem dX10_mixMeasure_130 : decode cX10_mixMeasure 130 = .ok (.iinc 2 1, 3) := by decide +kernel
theorem dX10_mixMeasure_133 : decode cX10_mixMeasure 133 = .ok (.goto (-21), 3) := by decide +kernel
theorem dX10_mixMeasure_136 : decode cX10_mixMeasure 136 = .ok (.return_, 1) := by decide +kernel
theorem dX10_digest_0 : decode cX10_digest 0 = .ok (.aload_n 0, 1) := by decide +kernel
theorem dX10_digest_1 : decode cX10_digest 1 = .ok (.iconst 0, 1) := by decide +kernel
theorem dX10_digest_2 : decode cX10_digest 2 = .ok (.putfield 31, 3) := by decide +kernel
theorem dX10_digest_5 : decode cX10_digest 5 = .ok (.aload_n 0, 1) := by decide +kernel
theorem dX10_digest_6 : decode cX10_digest 6 = .ok (.ldc2_w 282, 3) := by decide +kernel
theorem dX10_digest_9 : decode cX10_digest 9 = .ok (.putfield 275, 3) := by decide +kernel
theorem dX10_digest_12 : decode cX10_digest 12 = .ok (.aload_n 0, 1) := by decide +kernel
theorem dX10_digest_13 : decode cX10_digest 13 = .ok (.aload_n 0, 1) := by decide +kernel
theorem dX10_digest_14 : decode cX10_digest 14 = .ok (.getfield 35, 3) := by decide +kernel
theorem dX10_digest_17 : decode cX10_digest 17 = .ok (.invokevirtual 279, 3) := by decide +kernel
theorem dX10_digest_20 : decode cX10_digest 20 = .ok (.iconst 0, 1) := by decide +kernel
theorem dX10_digest_21 : decode cX10_digest 21 = .ok (.istore_n 1, 1) := by decide +kernel
theorem dX10_digest_22 : decode cX10_digest 22 = .ok (.iload_n 1, 1) := by decide +kernel
theorem dX10_digest_23 : decode cX10_digest 23 = .ok (.bipush 9, 2) := by decide +kernel
theorem dX10_digest_25 : decode cX10_digest 25 = .ok (.if_icmp .ge 18, 3) := by decide +kernel
theorem dX10_digest_28 : decode cX10_digest 28 = .ok (.aload_n 0, 1) := by decide +kernel
theorem dX10_digest_29 : decode cX10_digest 29 = .ok (.aload_n 0, 1) := by decide +kernel
theorem dX10_digest_30 : decode cX10_digest 30 = .ok (.iload_n 1, 1) := by decide +kernel
theorem dX10_digest_31 : decode cX10_digest 31 = .ok (.invokevirtual 158, 3) := by decide +kernel
theorem dX10_digest_34 : decode cX10_digest 34 = .ok (.invokevirtual 279, 3) := by decide +kernel
theorem dX10_digest_37 : decode cX10_digest 37 = .ok (.iinc 1 1, 3) := by decide +kernel
theorem dX10_digest_40 : decode cX10_digest 40 = .ok (.goto (-18), 3) := by decide +kernel
theorem dX10_digest_43 : decode cX10_digest 43 = .ok (.iconst 0, 1) := by decide +kernel
theorem dX10_digest_44 : decode cX10_digest 44 = .ok (.istore_n 1, 1) := by decide +kernel
theorem dX10_digest_45 : decode cX10_digest 45 = .ok (.iload_n 1, 1) := by decide +kernel
theorem dX10_digest_46 : decode cX10_digest 46 = .ok (.aload_n 0, 1) := by decide +kernel
theorem dX10_digest_47 : decode cX10_digest 47 = .ok (.getfield 7, 3) := by decide +kernel
theorem dX10_digest_50 : decode cX10_digest 50 = .ok (.iconst 0, 1) := by decide +kernel
theorem dX10_digest_51 : decode cX10_digest 51 = .ok (.iaload, 1) := by decide +kernel
theorem dX10_digest_52 : decode cX10_digest 52 = .ok (.if_icmp .ge 14, 3) := by decide +kernel
theorem dX10_digest_55 : decode cX10_digest 55 = .ok (.aload_n 0, 1) := by decide +kernel
theorem dX10_digest_56 : decode cX10_digest 56 = .ok (.iload_n 1, 1) := by decide +kernel
theorem dX10_digest_57 : decode cX10_digest 57 = .ok (.invokevirtual 284, 3) := by decide +kernel
theorem dX10_digest_60 : decode cX10_digest 60 = .ok (.iinc 1 1, 3) := by decide +kernel
theorem dX10_digest_63 : decode cX10_digest 63 = .ok (.goto (-18), 3) := by decide +kernel
theorem dX10_digest_66 : decode cX10_digest 66 = .ok (.aload_n 0, 1) := by decide +kernel
theorem dX10_digest_67 : decode cX10_digest 67 = .ok (.invokevirtual 143, 3) := by decide +kernel
theorem dX10_digest_70 : decode cX10_digest 70 = .ok (.iconst 0, 1) := by decide +kernel
theorem dX10_digest_71 : decode cX10_digest 71 = .ok (.istore_n 1, 1) := by decide +kernel
theorem dX10_digest_72 : decode cX10_digest 72 = .ok (.iload_n 1, 1) := by decide +kernel
theorem dX10_digest_73 : decode cX10_digest 73 = .ok (.aload_n 0, 1) := by decide +kernel
theorem dX10_digest_74 : decode cX10_digest 74 = .ok (.getfield 146, 3) := by decide +kernel
theorem dX10_digest_77 : decode cX10_digest 77 = .ok (.if_icmp .ge 19, 3) := by decide +kernel
theorem dX10_digest_80 : decode cX10_digest 80 = .ok (.aload_n 0, 1) := by decide +kernel
theorem dX10_digest_81 : decode cX10_digest 81 = .ok (.aload_n 0, 1) := by decide +kernel
theorem dX10_digest_82 : decode cX10_digest 82 = .ok (.getfield 19, 3) := by decide +kernel
theorem dX10_digest_85 : decode cX10_digest 85 = .ok (.iload_n 1, 1) := by decide +kernel
theorem dX10_digest_86 : decode cX10_digest 86 = .ok (.iaload, 1) := by decide +kernel
theorem dX10_digest_87 : decode cX10_digest 87 = .ok (.invokevirtual 279, 3) := by decide +kernel
theorem dX10_digest_90 : decode cX10_digest 90 = .ok (.iinc 1 1, 3) := by decide +kernel
theorem dX10_digest_93 : decode cX10_digest 93 = .ok (.goto (-21), 3) := by decide +kernel
theorem dX10_digest_96 : decode cX10_digest 96 = .ok (.aload_n 0, 1) := by decide +kernel
theorem dX10_digest_97 : decode cX10_digest 97 = .ok (.aload_n 0, 1) := by decide +kernel
theorem dX10_digest_98 : decode cX10_digest 98 = .ok (.invokevirtual 264, 3) := by decide +kernel
theorem dX10_digest_101 : decode cX10_digest 101 = .ok (.invokevirtual 279, 3) := by decide +kernel
theorem dX10_digest_104 : decode cX10_digest 104 = .ok (.aload_n 0, 1) := by decide +kernel
theorem dX10_digest_105 : decode cX10_digest 105 = .ok (.getfield 275, 3) := by decide +kernel
theorem dX10_digest_108 : decode cX10_digest 108 = .ok (.lreturn, 1) := by decide +kernel
theorem dJ0_length_8abf5_0 : decode cJ0_length_8abf5 0 = .ok (.aload_n 0, 1) := by decide +kernel
theorem dJ0_length_8abf5_1 : decode cJ0_length_8abf5 1 = .ok (.getfield 9, 3) := by decide +kernel
theorem dJ0_length_8abf5_4 : decode cJ0_length_8abf5 4 = .ok (.arraylength, 1) := by decide +kernel
theorem dJ0_length_8abf5_5 : decode cJ0_length_8abf5 5 = .ok (.aload_n 0, 1) := by decide +kernel
theorem dJ0_length_8abf5_6 : decode cJ0_length_8abf5 6 = .ok (.invokevirtual 335, 3) := by decide +kernel
theorem dJ0_length_8abf5_9 : decode cJ0_length_8abf5 9 = .ok (.ishr, 1) := by decide +kernel
theorem dJ0_length_8abf5_10 : decode cJ0_length_8abf5 10 = .ok (.ireturn, 1) := by decide +kernel
theorem dJ0_charAt_5068e_0 : decode cJ0_charAt_5068e 0 = .ok (.aload_n 0, 1) := by decide +kernel
theorem dJ0_charAt_5068e_1 : decode cJ0_charAt_5068e 1 = .ok (.invokevirtual 492, 3) := by decide +kernel
theorem dJ0_charAt_5068e_4 : decode cJ0_charAt_5068e 4 = .ok (.ifCond .eq 12, 3) := by decide +kernel
theorem dJ0_charAt_5068e_7 : decode cJ0_charAt_5068e 7 = .ok (.aload_n 0, 1) := by decide +kernel
theorem dJ0_charAt_5068e_8 : decode cJ0_charAt_5068e 8 = .ok (.getfield 9, 3) := by decide +kernel
theorem dJ0_charAt_5068e_11 : decode cJ0_charAt_5068e 11 = .ok (.iload_n 1, 1) := by decide +kernel
theorem dJ0_charAt_5068e_12 : decode cJ0_charAt_5068e 12 = .ok (.invokestatic 495, 3) := by decide +kernel
theorem dJ0_charAt_5068e_15 : decode cJ0_charAt_5068e 15 = .ok (.ireturn, 1) := by decide +kernel
theorem dJ0_charAt_5068e_16 : decode cJ0_charAt_5068e 16 = .ok (.aload_n 0, 1) := by decide +kernel
theorem dJ0_charAt_5068e_17 : decode cJ0_charAt_5068e 17 = .ok (.getfield 9, 3) := by decide +kernel
theorem dJ0_charAt_5068e_20 : decode cJ0_charAt_5068e 20 = .ok (.iload_n 1, 1) := by decide +kernel
theorem dJ0_charAt_5068e_21 : decode cJ0_charAt_5068e 21 = .ok (.invokestatic 498, 3) := by decide +kernel
theorem dJ0_charAt_5068e_24 : decode cJ0_charAt_5068e 24 = .ok (.ireturn, 1) := by decide +kernel
theorem dJ0_indexOf_0f7a4_0 : decode cJ0_indexOf_0f7a4 0 = .ok (.aload_n 0, 1) := by decide +kernel
theorem dJ0_indexOf_0f7a4_1 : decode cJ0_indexOf_0f7a4 1 = .ok (.iload_n 1, 1) := by decide +kernel
theorem dJ0_indexOf_0f7a4_2 : decode cJ0_indexOf_0f7a4 2 = .ok (.iconst 0, 1) := by decide +kernel
theorem dJ0_indexOf_0f7a4_3 : decode cJ0_indexOf_0f7a4 3 = .ok (.invokevirtual 633, 3) := by decide +kernel
theorem dJ0_indexOf_0f7a4_6 : decode cJ0_indexOf_0f7a4 6 = .ok (.ireturn, 1) := by decide +kernel
theorem dJ0_indexOf_7cf53_0 : decode cJ0_indexOf_7cf53 0 = .ok (.aload_n 0, 1) := by decide +kernel
theorem dJ0_indexOf_7cf53_1 : decode cJ0_indexOf_7cf53 1 = .ok (.invokevirtual 492, 3) := by decide +kernel
theorem dJ0_indexOf_7cf53_4 : decode cJ0_indexOf_7cf53 4 = .ok (.ifCond .eq 19, 3) := by decide +kernel
theorem dJ0_indexOf_7cf53_7 : decode cJ0_indexOf_7cf53 7 = .ok (.aload_n 0, 1) := by decide +kernel
theorem dJ0_indexOf_7cf53_8 : decode cJ0_indexOf_7cf53 8 = .ok (.getfield 9, 3) := by decide +kernel
theorem dJ0_indexOf_7cf53_11 : decode cJ0_indexOf_7cf53 11 = .ok (.iload_n 1, 1) := by decide +kernel
theorem dJ0_indexOf_7cf53_12 : decode cJ0_indexOf_7cf53 12 = .ok (.iload_n 2, 1) := by decide +kernel
theorem dJ0_indexOf_7cf53_13 : decode cJ0_indexOf_7cf53 13 = .ok (.aload_n 0, 1) := by decide +kernel
theorem dJ0_indexOf_7cf53_14 : decode cJ0_indexOf_7cf53 14 = .ok (.invokevirtual 505, 3) := by decide +kernel
theorem dJ0_indexOf_7cf53_17 : decode cJ0_indexOf_7cf53 17 = .ok (.invokestatic 637, 3) := by decide +kernel
theorem dJ0_indexOf_7cf53_20 : decode cJ0_indexOf_7cf53 20 = .ok (.goto 16, 3) := by decide +kernel
theorem dJ0_indexOf_7cf53_23 : decode cJ0_indexOf_7cf53 23 = .ok (.aload_n 0, 1) := by decide +kernel
theorem dJ0_indexOf_7cf53_24 : decode cJ0_indexOf_7cf53 24 = .ok (.getfield 9, 3) := by decide +kernel
theorem dJ0_indexOf_7cf53_27 : decode cJ0_indexOf_7cf53 27 = .ok (.iload_n 1, 1) := by decide +kernel
theorem dJ0_indexOf_7cf53_28 : decode cJ0_indexOf_7cf53 28 = .ok (.iload_n 2, 1) := by decide +kernel
theorem dJ0_indexOf_7cf53_29 : decode cJ0_indexOf_7cf53 29 = .ok (.aload_n 0, 1) := by decide +kernel
theorem dJ0_indexOf_7cf53_30 : decode cJ0_indexOf_7cf53 30 = .ok (.invokevirtual 505, 3) := by decide +kernel
theorem dJ0_indexOf_7cf53_33 : decode cJ0_indexOf_7cf53 33 = .ok (.invokestatic 640, 3) := by decide +kernel
theorem dJ0_indexOf_7cf53_36 : decode cJ0_indexOf_7cf53 36 = .ok (.ireturn, 1) := by decide +kernel
theorem dJ0_coder_7d493_0 : decode cJ0_coder_7d493 0 = .ok (.getstatic 38, 3) := by decide +kernel
theorem dJ0_coder_7d493_3 : decode cJ0_coder_7d493 3 = .ok (.ifCond .eq 10, 3) := by decide +kernel
theorem dJ0_coder_7d493_6 : decode cJ0_coder_7d493 6 = .ok (.aload_n 0, 1) := by decide +kernel
theorem dJ0_coder_7d493_7 : decode cJ0_coder_7d493 7 = .ok (.getfield 15, 3) := by decide +kernel
theorem dJ0_coder_7d493_10 : decode cJ0_coder_7d493 10 = .ok (.goto 4, 3) := by decide +kernel
theorem dJ0_coder_7d493_13 : decode cJ0_coder_7d493 13 = .ok (.iconst 1, 1) := by decide +kernel
theorem dJ0_coder_7d493_14 : decode cJ0_coder_7d493 14 = .ok (.ireturn, 1) := by decide +kernel
theorem dJ0_isLatin1_aae02_0 : decode cJ0_isLatin1_aae02 0 = .ok (.getstatic 38, 3) := by decide +kernel
theorem dJ0_isLatin1_aae02_3 : decode cJ0_isLatin1_aae02 3 = .ok (.ifCond .eq 14, 3) := by decide +kernel
theorem dJ0_isLatin1_aae02_6 : decode cJ0_isLatin1_aae02 6 = .ok (.aload_n 0, 1) := by decide +kernel
theorem dJ0_isLatin1_aae02_7 : decode cJ0_isLatin1_aae02 7 = .ok (.getfield 15, 3) := by decide +kernel
theorem dJ0_isLatin1_aae02_10 : decode cJ0_isLatin1_aae02 10 = .ok (.ifCond .ne 7, 3) := by decide +kernel
theorem dJ0_isLatin1_aae02_13 : decode cJ0_isLatin1_aae02 13 = .ok (.iconst 1, 1) := by decide +kernel
theorem dJ0_isLatin1_aae02_14 : decode cJ0_isLatin1_aae02 14 = .ok (.goto 4, 3) := by decide +kernel
theorem dJ0_isLatin1_aae02_17 : decode cJ0_isLatin1_aae02 17 = .ok (.iconst 0, 1) := by decide +kernel
theorem dJ0_isLatin1_aae02_18 : decode cJ0_isLatin1_aae02 18 = .ok (.ireturn, 1) := by decide +kernel
theorem dJ0_checkIndex_df160_0 : decode cJ0_checkIndex_df160 0 = .ok (.iload_n 0, 1) := by decide +kernel
theorem dJ0_checkIndex_df160_1 : decode cJ0_checkIndex_df160 1 = .ok (.iload_n 1, 1) := by decide +kernel
theorem dJ0_checkIndex_df160_2 : decode cJ0_checkIndex_df160 2 = .ok (.getstatic 1053, 3) := by decide +kernel
theorem dJ0_checkIndex_df160_5 : decode cJ0_checkIndex_df160 5 = .ok (.invokestatic 1059, 3) := by decide +kernel
theorem dJ0_checkIndex_df160_8 : decode cJ0_checkIndex_df160 8 = .ok (.pop, 1) := by decide +kernel
theorem dJ0_checkIndex_df160_9 : decode cJ0_checkIndex_df160 9 = .ok (.return_, 1) := by decide +kernel
theorem dJ1_charAt_3b067_0 : decode cJ1_charAt_3b067 0 = .ok (.iload_n 1, 1) := by decide +kernel
theorem dJ1_charAt_3b067_1 : decode cJ1_charAt_3b067 1 = .ok (.aload_n 0, 1) := by decide +kernel
theorem dJ1_charAt_3b067_2 : decode cJ1_charAt_3b067 2 = .ok (.arraylength, 1) := by decide +kernel
theorem dJ1_charAt_3b067_3 : decode cJ1_charAt_3b067 3 = .ok (.invokestatic 9, 3) := by decide +kernel
theorem dJ1_charAt_3b067_6 : decode cJ1_charAt_3b067 6 = .ok (.aload_n 0, 1) := by decide +kernel
theorem dJ1_charAt_3b067_7 : decode cJ1_charAt_3b067 7 = .ok (.iload_n 1, 1) := by decide +kernel
theorem dJ1_charAt_3b067_8 : decode cJ1_charAt_3b067 8 = .ok (.baload, 1) := by decide +kernel
theorem dJ1_charAt_3b067_9 : decode cJ1_charAt_3b067 9 = .ok (.sipush 255, 3) := by decide +kernel
theorem dJ1_charAt_3b067_12 : decode cJ1_charAt_3b067 12 = .ok (.iand, 1) := by decide +kernel
theorem dJ1_charAt_3b067_13 : decode cJ1_charAt_3b067 13 = .ok (.i2c, 1) := by decide +kernel
theorem dJ1_charAt_3b067_14 : decode cJ1_charAt_3b067 14 = .ok (.ireturn, 1) := by decide +kernel
theorem dJ1_canEncode_9a6ad_0 : decode cJ1_canEncode_9a6ad 0 = .ok (.iload_n 0, 1) := by decide +kernel
theorem dJ1_canEncode_9a6ad_1 : decode cJ1_canEncode_9a6ad 1 = .ok (.ifCond .lt 14, 3) := by decide +kernel
theorem dJ1_canEncode_9a6ad_4 : decode cJ1_canEncode_9a6ad 4 = .ok (.iload_n 0, 1) := by decide +kernel
theorem dJ1_canEncode_9a6ad_5 : decode cJ1_canEncode_9a6ad 5 = .ok (.sipush 255, 3) := by decide +kernel
theorem dJ1_canEncode_9a6ad_8 : decode cJ1_canEncode_9a6ad 8 = .ok (.if_icmp .gt 7, 3) := by decide +kernel
theorem dJ1_canEncode_9a6ad_11 : decode cJ1_canEncode_9a6ad 11 = .ok (.iconst 1, 1) := by decide +kernel
theorem dJ1_canEncode_9a6ad_12 : decode cJ1_canEncode_9a6ad 12 = .ok (.goto 4, 3) := by decide +kernel
theorem dJ1_canEncode_9a6ad_15 : decode cJ1_canEncode_9a6ad 15 = .ok (.iconst 0, 1) := by decide +kernel
theorem dJ1_canEncode_9a6ad_16 : decode cJ1_canEncode_9a6ad 16 = .ok (.ireturn, 1) := by decide +kernel
theorem dJ1_indexOf_4cfef_0 : decode cJ1_indexOf_4cfef 0 = .ok (.iload_n 1, 1) := by decide +kernel
theorem dJ1_indexOf_4cfef_1 : decode cJ1_indexOf_4cfef 1 = .ok (.invokestatic 88, 3) := by decide +kernel
theorem dJ1_indexOf_4cfef_4 : decode cJ1_indexOf_4cfef 4 = .ok (.ifCond .ne 5, 3) := by decide +kernel
theorem dJ1_indexOf_4cfef_7 : decode cJ1_indexOf_4cfef 7 = .ok (.iconst (-1), 1) := by decide +kernel
theorem dJ1_indexOf_4cfef_8 : decode cJ1_indexOf_4cfef 8 = .ok (.ireturn, 1) := by decide +kernel
theorem dJ1_indexOf_4cfef_9 : decode cJ1_indexOf_4cfef 9 = .ok (.iload_n 2, 1) := by decide +kernel
theorem dJ1_indexOf_4cfef_10 : decode cJ1_indexOf_4cfef 10 = .ok (.iconst 0, 1) := by decide +kernel
theorem dJ1_indexOf_4cfef_11 : decode cJ1_indexOf_4cfef 11 = .ok (.invokestatic 92, 3) := by decide +kernel
theorem dJ1_indexOf_4cfef_14 : decode cJ1_indexOf_4cfef 14 = .ok (.istore_n 2, 1) := by decide +kernel
theorem dJ1_indexOf_4cfef_15 : decode cJ1_indexOf_4cfef 15 = .ok (.iload_n 3, 1) := by decide +kernel
theorem dJ1_indexOf_4cfef_16 : decode cJ1_indexOf_4cfef 16 = .ok (.aload_n 0, 1) := by decide +kernel
theorem dJ1_indexOf_4cfef_17 : decode cJ1_indexOf_4cfef 17 = .ok (.arraylength, 1) := by decide +kernel
theorem dJ1_indexOf_4cfef_18 : decode cJ1_indexOf_4cfef 18 = .ok (.invokestatic 38, 3) := by decide +kernel
theorem dJ1_indexOf_4cfef_21 : decode cJ1_indexOf_4cfef 21 = .ok (.istore_n 3, 1) := by decide +kernel
theorem dJ1_indexOf_4cfef_22 : decode cJ1_indexOf_4cfef 22 = .ok (.iload_n 2, 1) := by decide +kernel
theorem dJ1_indexOf_4cfef_23 : decode cJ1_indexOf_4cfef 23 = .ok (.iload_n 3, 1) := by decide +kernel
theorem dJ1_indexOf_4cfef_24 : decode cJ1_indexOf_4cfef 24 = .ok (.if_icmp .lt 5, 3) := by decide +kernel
theorem dJ1_indexOf_4cfef_27 : decode cJ1_indexOf_4cfef 27 = .ok (.iconst (-1), 1) := by decide +kernel
theorem dJ1_indexOf_4cfef_28 : decode cJ1_indexOf_4cfef 28 = .ok (.ireturn, 1) := by decide +kernel
theorem dJ1_indexOf_4cfef_29 : decode cJ1_indexOf_4cfef 29 = .ok (.aload_n 0, 1) := by decide +kernel
theorem dJ1_indexOf_4cfef_30 : decode cJ1_indexOf_4cfef 30 = .ok (.iload_n 1, 1) := by decide +kernel
theorem dJ1_indexOf_4cfef_31 : decode cJ1_indexOf_4cfef 31 = .ok (.iload_n 2, 1) := by decide +kernel
theorem dJ1_indexOf_4cfef_32 : decode cJ1_indexOf_4cfef 32 = .ok (.iload_n 3, 1) := by decide +kernel
theorem dJ1_indexOf_4cfef_33 : decode cJ1_indexOf_4cfef 33 = .ok (.invokestatic 95, 3) := by decide +kernel
theorem dJ1_indexOf_4cfef_36 : decode cJ1_indexOf_4cfef 36 = .ok (.ireturn, 1) := by decide +kernel
theorem dJ1_indexOfChar_4cfef_0 : decode cJ1_indexOfChar_4cfef 0 = .ok (.iload_n 1, 1) := by decide +kernel
theorem dJ1_indexOfChar_4cfef_1 : decode cJ1_indexOfChar_4cfef 1 = .ok (.i2b, 1) := by decide +kernel
theorem dJ1_indexOfChar_4cfef_2 : decode cJ1_indexOfChar_4cfef 2 = .ok (.istore 4, 2) := by decide +kernel
theorem dJ1_indexOfChar_4cfef_4 : decode cJ1_indexOfChar_4cfef 4 = .ok (.iload_n 2, 1) := by decide +kernel
theorem dJ1_indexOfChar_4cfef_5 : decode cJ1_indexOfChar_4cfef 5 = .ok (.istore 5, 2) := by decide +kernel
theorem dJ1_indexOfChar_4cfef_7 : decode cJ1_indexOfChar_4cfef 7 = .ok (.iload 5, 2) := by decide +kernel
theorem dJ1_indexOfChar_4cfef_9 : decode cJ1_indexOfChar_4cfef 9 = .ok (.iload_n 3, 1) := by decide +kernel
theorem dJ1_indexOfChar_4cfef_10 : decode cJ1_indexOfChar_4cfef 10 = .ok (.if_icmp .ge 21, 3) := by decide +kernel
theorem dJ1_indexOfChar_4cfef_13 : decode cJ1_indexOfChar_4cfef 13 = .ok (.aload_n 0, 1) := by decide +kernel
theorem dJ1_indexOfChar_4cfef_14 : decode cJ1_indexOfChar_4cfef 14 = .ok (.iload 5, 2) := by decide +kernel
theorem dJ1_indexOfChar_4cfef_16 : decode cJ1_indexOfChar_4cfef 16 = .ok (.baload, 1) := by decide +kernel
theorem dJ1_indexOfChar_4cfef_17 : decode cJ1_indexOfChar_4cfef 17 = .ok (.iload 4, 2) := by decide +kernel
theorem dJ1_indexOfChar_4cfef_19 : decode cJ1_indexOfChar_4cfef 19 = .ok (.if_icmp .ne 6, 3) := by decide +kernel
theorem dJ1_indexOfChar_4cfef_22 : decode cJ1_indexOfChar_4cfef 22 = .ok (.iload 5, 2) := by decide +kernel
theorem dJ1_indexOfChar_4cfef_24 : decode cJ1_indexOfChar_4cfef 24 = .ok (.ireturn, 1) := by decide +kernel
theorem dJ1_indexOfChar_4cfef_25 : decode cJ1_indexOfChar_4cfef 25 = .ok (.iinc 5 1, 3) := by decide +kernel
theorem dJ1_indexOfChar_4cfef_28 : decode cJ1_indexOfChar_4cfef 28 = .ok (.goto (-21), 3) := by decide +kernel
theorem dJ1_indexOfChar_4cfef_31 : decode cJ1_indexOfChar_4cfef 31 = .ok (.iconst (-1), 1) := by decide +kernel
theorem dJ1_indexOfChar_4cfef_32 : decode cJ1_indexOfChar_4cfef 32 = .ok (.ireturn, 1) := by decide +kernel
theorem dJ7_rangeCheck_23922_0 : decode cJ7_rangeCheck_23922 0 = .ok (.iload_n 1, 1) := by decide +kernel
theorem dJ7_rangeCheck_23922_1 : decode cJ7_rangeCheck_23922 1 = .ok (.iload_n 2, 1) := by decide +kernel
theorem dJ7_rangeCheck_23922_2 : decode cJ7_rangeCheck_23922 2 = .ok (.if_icmp .le 44, 3) := by decide +kernel
theorem dJ7_rangeCheck_23922_5 : decode cJ7_rangeCheck_23922 5 = .ok (.new 43, 3) := by decide +kernel
theorem dJ7_rangeCheck_23922_8 : decode cJ7_rangeCheck_23922 8 = .ok (.dup, 1) := by decide +kernel
theorem dJ7_rangeCheck_23922_9 : decode cJ7_rangeCheck_23922 9 = .ok (.new 45, 3) := by decide +kernel
theorem dJ7_rangeCheck_23922_12 : decode cJ7_rangeCheck_23922 12 = .ok (.dup, 1) := by decide +kernel
theorem dJ7_rangeCheck_23922_13 : decode cJ7_rangeCheck_23922 13 = .ok (.invokespecial 47, 3) := by decide +kernel
theorem dJ7_rangeCheck_23922_16 : decode cJ7_rangeCheck_23922 16 = .ok (.ldc 48, 2) := by decide +kernel
theorem dJ7_rangeCheck_23922_18 : decode cJ7_rangeCheck_23922 18 = .ok (.invokevirtual 50, 3) := by decide +kernel
theorem dJ7_rangeCheck_23922_21 : decode cJ7_rangeCheck_23922 21 = .ok (.iload_n 1, 1) := by decide +kernel
theorem dJ7_rangeCheck_23922_22 : decode cJ7_rangeCheck_23922 22 = .ok (.invokevirtual 54, 3) := by decide +kernel
theorem dJ7_rangeCheck_23922_25 : decode cJ7_rangeCheck_23922 25 = .ok (.ldc 57, 2) := by decide +kernel
theorem dJ7_rangeCheck_23922_27 : decode cJ7_rangeCheck_23922 27 = .ok (.invokevirtual 50, 3) := by decide +kernel
theorem dJ7_rangeCheck_23922_30 : decode cJ7_rangeCheck_23922 30 = .ok (.iload_n 2, 1) := by decide +kernel
theorem dJ7_rangeCheck_23922_31 : decode cJ7_rangeCheck_23922 31 = .ok (.invokevirtual 54, 3) := by decide +kernel
theorem dJ7_rangeCheck_23922_34 : decode cJ7_rangeCheck_23922 34 = .ok (.ldc 59, 2) := by decide +kernel
theorem dJ7_rangeCheck_23922_36 : decode cJ7_rangeCheck_23922 36 = .ok (.invokevirtual 50, 3) := by decide +kernel
theorem dJ7_rangeCheck_23922_39 : decode cJ7_rangeCheck_23922 39 = .ok (.invokevirtual 61, 3) := by decide +kernel
theorem dJ7_rangeCheck_23922_42 : decode cJ7_rangeCheck_23922 42 = .ok (.invokespecial 65, 3) := by decide +kernel
theorem dJ7_rangeCheck_23922_45 : decode cJ7_rangeCheck_23922 45 = .ok (.athrow, 1) := by decide +kernel
theorem dJ7_rangeCheck_23922_46 : decode cJ7_rangeCheck_23922 46 = .ok (.iload_n 1, 1) := by decide +kernel
theorem dJ7_rangeCheck_23922_47 : decode cJ7_rangeCheck_23922 47 = .ok (.ifCond .ge 12, 3) := by decide +kernel
theorem dJ7_rangeCheck_23922_50 : decode cJ7_rangeCheck_23922 50 = .ok (.new 68, 3) := by decide +kernel
theorem dJ7_rangeCheck_23922_53 : decode cJ7_rangeCheck_23922 53 = .ok (.dup, 1) := by decide +kernel
theorem dJ7_rangeCheck_23922_54 : decode cJ7_rangeCheck_23922 54 = .ok (.iload_n 1, 1) := by decide +kernel
theorem dJ7_rangeCheck_23922_55 : decode cJ7_rangeCheck_23922 55 = .ok (.invokespecial 70, 3) := by decide +kernel
theorem dJ7_rangeCheck_23922_58 : decode cJ7_rangeCheck_23922 58 = .ok (.athrow, 1) := by decide +kernel
theorem dJ7_rangeCheck_23922_59 : decode cJ7_rangeCheck_23922 59 = .ok (.iload_n 2, 1) := by decide +kernel
theorem dJ7_rangeCheck_23922_60 : decode cJ7_rangeCheck_23922 60 = .ok (.iload_n 0, 1) := by decide +kernel
theorem dJ7_rangeCheck_23922_61 : decode cJ7_rangeCheck_23922 61 = .ok (.if_icmp .le 12, 3) := by decide +kernel
theorem dJ7_rangeCheck_23922_64 : decode cJ7_rangeCheck_23922 64 = .ok (.new 68, 3) := by decide +kernel
theorem dJ7_rangeCheck_23922_67 : decode cJ7_rangeCheck_23922 67 = .ok (.dup, 1) := by decide +kernel
theorem dJ7_rangeCheck_23922_68 : decode cJ7_rangeCheck_23922 68 = .ok (.iload_n 2, 1) := by decide +kernel
theorem dJ7_rangeCheck_23922_69 : decode cJ7_rangeCheck_23922 69 = .ok (.invokespecial 70, 3) := by decide +kernel
theorem dJ7_rangeCheck_23922_72 : decode cJ7_rangeCheck_23922 72 = .ok (.athrow, 1) := by decide +kernel
theorem dJ7_rangeCheck_23922_73 : decode cJ7_rangeCheck_23922 73 = .ok (.return_, 1) := by decide +kernel
theorem dJ7_fill_fda19_0 : decode cJ7_fill_fda19 0 = .ok (.aload_n 0, 1) := by decide +kernel
theorem dJ7_fill_fda19_1 : decode cJ7_fill_fda19 1 = .ok (.arraylength, 1) := by decide +kernel
theorem dJ7_fill_fda19_2 : decode cJ7_fill_fda19 2 = .ok (.iload_n 1, 1) := by decide +kernel
theorem dJ7_fill_fda19_3 : decode cJ7_fill_fda19 3 = .ok (.iload_n 2, 1) := by decide +kernel
theorem dJ7_fill_fda19_4 : decode cJ7_fill_fda19 4 = .ok (.invokestatic 13, 3) := by decide +kernel
theorem dJ7_fill_fda19_7 : decode cJ7_fill_fda19 7 = .ok (.iload_n 1, 1) := by decide +kernel
theorem dJ7_fill_fda19_8 : decode cJ7_fill_fda19 8 = .ok (.istore 4, 2) := by decide +kernel
theorem dJ7_fill_fda19_10 : decode cJ7_fill_fda19 10 = .ok (.iload 4, 2) := by decide +kernel
theorem dJ7_fill_fda19_12 : decode cJ7_fill_fda19 12 = .ok (.iload_n 2, 1) := by decide +kernel
theorem dJ7_fill_fda19_13 : decode cJ7_fill_fda19 13 = .ok (.if_icmp .ge 14, 3) := by decide +kernel
theorem dJ7_fill_fda19_16 : decode cJ7_fill_fda19 16 = .ok (.aload_n 0, 1) := by decide +kernel
theorem dJ7_fill_fda19_17 : decode cJ7_fill_fda19 17 = .ok (.iload 4, 2) := by decide +kernel
theorem dJ7_fill_fda19_19 : decode cJ7_fill_fda19 19 = .ok (.iload_n 3, 1) := by decide +kernel
theorem dJ7_fill_fda19_20 : decode cJ7_fill_fda19 20 = .ok (.iastore, 1) := by decide +kernel
theorem dJ7_fill_fda19_21 : decode cJ7_fill_fda19 21 = .ok (.iinc 4 1, 3) := by decide +kernel
theorem dJ7_fill_fda19_24 : decode cJ7_fill_fda19 24 = .ok (.goto (-14), 3) := by decide +kernel
theorem dJ7_fill_fda19_27 : decode cJ7_fill_fda19 27 = .ok (.return_, 1) := by decide +kernel
theorem dJ3_checkIndex_8e157_0 : decode cJ3_checkIndex_8e157 0 = .ok (.iload_n 0, 1) := by decide +kernel
theorem dJ3_checkIndex_8e157_1 : decode cJ3_checkIndex_8e157 1 = .ok (.ifCond .lt 8, 3) := by decide +kernel
theorem dJ3_checkIndex_8e157_4 : decode cJ3_checkIndex_8e157 4 = .ok (.iload_n 0, 1) := by decide +kernel
theorem dJ3_checkIndex_8e157_5 : decode cJ3_checkIndex_8e157 5 = .ok (.iload_n 1, 1) := by decide +kernel
theorem dJ3_checkIndex_8e157_6 : decode cJ3_checkIndex_8e157 6 = .ok (.if_icmp .lt 10, 3) := by decide +kernel
theorem dJ3_checkIndex_8e157_9 : decode cJ3_checkIndex_8e157 9 = .ok (.aload_n 2, 1) := by decide +kernel
theorem dJ3_checkIndex_8e157_10 : decode cJ3_checkIndex_8e157 10 = .ok (.iload_n 0, 1) := by decide +kernel
theorem dJ3_checkIndex_8e157_11 : decode cJ3_checkIndex_8e157 11 = .ok (.iload_n 1, 1) := by decide +kernel
theorem dJ3_checkIndex_8e157_12 : decode cJ3_checkIndex_8e157 12 = .ok (.invokestatic 95, 3) := by decide +kernel
theorem dJ3_checkIndex_8e157_15 : decode cJ3_checkIndex_8e157 15 = .ok (.athrow, 1) := by decide +kernel
theorem dJ3_checkIndex_8e157_16 : decode cJ3_checkIndex_8e157 16 = .ok (.iload_n 0, 1) := by decide +kernel
theorem dJ3_checkIndex_8e157_17 : decode cJ3_checkIndex_8e157 17 = .ok (.ireturn, 1) := by decide +kernel
theorem dL_addMeasure_0 : decode cL_addMeasure 0 = .ok (.aload_n 1, 1) := by decide +kernel
theorem dL_addMeasure_1 : decode cL_addMeasure 1 = .ok (.iconst 0, 1) := by decide +kernel
theorem dL_addMeasure_2 : decode cL_addMeasure 2 = .ok (.aload_n 0, 1) := by decide +kernel
theorem dL_addMeasure_3 : decode cL_addMeasure 3 = .ok (.invokevirtual 7, 3) := by decide +kernel
theorem dL_addMeasure_6 : decode cL_addMeasure 6 = .ok (.i2l, 1) := by decide +kernel
theorem dL_addMeasure_7 : decode cL_addMeasure 7 = .ok (.lastore, 1) := by decide +kernel
theorem dL_addMeasure_8 : decode cL_addMeasure 8 = .ok (.goto 6, 3) := by decide +kernel
theorem dL_addMeasure_11 : decode cL_addMeasure 11 = .ok (.astore_n 2, 1) := by decide +kernel
theorem dL_addMeasure_12 : decode cL_addMeasure 12 = .ok (.iconst 1, 1) := by decide +kernel
theorem dL_addMeasure_13 : decode cL_addMeasure 13 = .ok (.ireturn, 1) := by decide +kernel
theorem dL_addMeasure_14 : decode cL_addMeasure 14 = .ok (.iconst 0, 1) := by decide +kernel
theorem dL_addMeasure_15 : decode cL_addMeasure 15 = .ok (.ireturn, 1) := by decide +kernel
theorem dL_removeMeasure_0 : decode cL_removeMeasure 0 = .ok (.aload_n 2, 1) := by decide +kernel
theorem dL_removeMeasure_1 : decode cL_removeMeasure 1 = .ok (.iconst 0, 1) := by decide +kernel
theorem dL_removeMeasure_2 : decode cL_removeMeasure 2 = .ok (.aload_n 0, 1) := by decide +kernel
theorem dL_removeMeasure_3 : decode cL_removeMeasure 3 = .ok (.iload_n 1, 1) := by decide +kernel
theorem dL_removeMeasure_4 : decode cL_removeMeasure 4 = .ok (.invokevirtual 15, 3) := by decide +kernel
theorem dL_removeMeasure_7 : decode cL_removeMeasure 7 = .ok (.i2l, 1) := by decide +kernel
theorem dL_removeMeasure_8 : decode cL_removeMeasure 8 = .ok (.lastore, 1) := by decide +kernel
theorem dL_removeMeasure_9 : decode cL_removeMeasure 9 = .ok (.goto 6, 3) := by decide +kernel
theorem dL_removeMeasure_12 : decode cL_removeMeasure 12 = .ok (.astore_n 3, 1) := by decide +kernel
theorem dL_removeMeasure_13 : decode cL_removeMeasure 13 = .ok (.iconst 1, 1) := by decide +kernel
theorem dL_removeMeasure_14 : decode cL_removeMeasure 14 = .ok (.ireturn, 1) := by decide +kernel
theorem dL_removeMeasure_15 : decode cL_removeMeasure 15 = .ok (.iconst 0, 1) := by decide +kernel
theorem dL_removeMeasure_16 : decode cL_removeMeasure 16 = .ok (.ireturn, 1) := by decide +kernel
theorem dL_set_0 : decode cL_set 0 = .ok (.aload 4, 2) := by decide +kernel
theorem dL_set_2 : decode cL_set 2 = .ok (.iconst 0, 1) := by decide +kernel
theorem dL_set_3 : decode cL_set 3 = .ok (.aload_n 0, 1) := by decide +kernel
theorem dL_set_4 : decode cL_set 4 = .ok (.iload_n 1, 1) := by decide +kernel
theorem dL_set_5 : decode cL_set 5 = .ok (.iload_n 2, 1) := by decide +kernel
theorem dL_set_6 : decode cL_set 6 = .ok (.iload_n 3, 1) := by decide +kernel
theorem dL_set_7 : decode cL_set 7 = .ok (.invokevirtual 21, 3) := by decide +kernel
theorem dL_set_10 : decode cL_set 10 = .ok (.i2l, 1) := by decide +kernel
theorem dL_set_11 : decode cL_set 11 = .ok (.lastore, 1) := by decide +kernel
theorem dL_set_12 : decode cL_set 12 = .ok (.goto 11, 3) := by decide +kernel
theorem dL_set_15 : decode cL_set 15 = .ok (.astore 5, 2) := by decide +kernel
theorem dL_set_17 : decode cL_set 17 = .ok (.iconst 1, 1) := by decide +kernel
theorem dL_set_18 : decode cL_set 18 = .ok (.ireturn, 1) := by decide +kernel
theorem dL_set_19 : decode cL_set 19 = .ok (.astore 5, 2) := by decide +kernel
theorem dL_set_21 : decode cL_set 21 = .ok (.iconst 2, 1) := by decide +kernel
theorem dL_set_22 : decode cL_set 22 = .ok (.ireturn, 1) := by decide +kernel
theorem dL_set_23 : decode cL_set 23 = .ok (.iconst 0, 1) := by decide +kernel
theorem dL_set_24 : decode cL_set 24 = .ok (.ireturn, 1) := by decide +kernel
theorem dL_addNote_0 : decode cL_addNote 0 = .ok (.aload 7, 2) := by decide +kernel
theorem dL_addNote_2 : decode cL_addNote 2 = .ok (.iconst 0, 1) := by decide +kernel
theorem dL_addNote_3 : decode cL_addNote 3 = .ok (.aload_n 0, 1) := by decide +kernel
theorem dL_addNote_4 : decode cL_addNote 4 = .ok (.iload_n 1, 1) := by decide +kernel
theorem dL_addNote_5 : decode cL_addNote 5 = .ok (.iload_n 2, 1) := by decide +kernel
theorem dL_addNote_6 : decode cL_addNote 6 = .ok (.iload_n 3, 1) := by decide +kernel
theorem dL_addNote_7 : decode cL_addNote 7 = .ok (.iload 4, 2) := by decide +kernel
theorem dL_addNote_9 : decode cL_addNote 9 = .ok (.iload 5, 2) := by decide +kernel
theorem dL_addNote_11 : decode cL_addNote 11 = .ok (.iload 6, 2) := by decide +kernel
theorem dL_addNote_13 : decode cL_addNote 13 = .ok (.invokevirtual 27, 3) := by decide +kernel
theorem dL_addNote_16 : decode cL_addNote 16 = .ok (.i2l, 1) := by decide +kernel
theorem dL_addNote_17 : decode cL_addNote 17 = .ok (.lastore, 1) := by decide +kernel
theorem dL_addNote_18 : decode cL_addNote 18 = .ok (.goto 15, 3) := by decide +kernel
theorem dL_addNote_21 : decode cL_addNote 21 = .ok (.astore 8, 2) := by decide +kernel
theorem dL_addNote_23 : decode cL_addNote 23 = .ok (.iconst 1, 1) := by decide +kernel
theorem dL_addNote_24 : decode cL_addNote 24 = .ok (.ireturn, 1) := by decide +kernel
theorem dL_addNote_25 : decode cL_addNote 25 = .ok (.astore 8, 2) := by decide +kernel
theorem dL_addNote_27 : decode cL_addNote 27 = .ok (.iconst 2, 1) := by decide +kernel
theorem dL_addNote_28 : decode cL_addNote 28 = .ok (.ireturn, 1) := by decide +kernel
theorem dL_addNote_29 : decode cL_addNote 29 = .ok (.astore 8, 2) := by decide +kernel
theorem dL_addNote_31 : decode cL_addNote 31 = .ok (.iconst 3, 1) := by decide +kernel
theorem dL_addNote_32 : decode cL_addNote 32 = .ok (.ireturn, 1) := by decide +kernel
theorem dL_addNote_33 : decode cL_addNote 33 = .ok (.iconst 0, 1) := by decide +kernel
theorem dL_addNote_34 : decode cL_addNote 34 = .ok (.ireturn, 1) := by decide +kernel
theorem dL_addRest_0 : decode cL_addRest 0 = .ok (.aload 4, 2) := by decide +kernel
theorem dL_addRest_2 : decode cL_addRest 2 = .ok (.iconst 0, 1) := by decide +kernel
theorem dL_addRest_3 : decode cL_addRest 3 = .ok (.aload_n 0, 1) := by decide +kernel
theorem dL_addRest_4 : decode cL_addRest 4 = .ok (.iload_n 1, 1) := by decide +kernel
theorem dL_addRest_5 : decode cL_addRest 5 = .ok (.iload_n 2, 1) := by decide +kernel
theorem dL_addRest_6 : decode cL_addRest 6 = .ok (.iload_n 3, 1) := by decide +kernel
theorem dL_addRest_7 : decode cL_addRest 7 = .ok (.invokevirtual 31, 3) := by decide +kernel
theorem dL_addRest_10 : decode cL_addRest 10 = .ok (.i2l, 1) := by decide +kernel
theorem dL_addRest_11 : decode cL_addRest 11 = .ok (.lastore, 1) := by decide +kernel
theorem dL_addRest_12 : decode cL_addRest 12 = .ok (.goto 15, 3) := by decide +kernel
theorem dL_addRest_15 : decode cL_addRest 15 = .ok (.astore 5, 2) := by decide +kernel
theorem dL_addRest_17 : decode cL_addRest 17 = .ok (.iconst 1, 1) := by decide +kernel
theorem dL_addRest_18 : decode cL_addRest 18 = .ok (.ireturn, 1) := by decide +kernel
theorem dL_addRest_19 : decode cL_addRest 19 = .ok (.astore 5, 2) := by decide +kernel
theorem dL_addRest_21 : decode cL_addRest 21 = .ok (.iconst 2, 1) := by decide +kernel
theorem dL_addRest_22 : decode cL_addRest 22 = .ok (.ireturn, 1) := by decide +kernel
theorem dL_addRest_23 : decode cL_addRest 23 = .ok (.astore 5, 2) := by decide +kernel
theorem dL_addRest_25 : decode cL_addRest 25 = .ok (.iconst 3, 1) := by decide +kernel
theorem dL_addRest_26 : decode cL_addRest 26 = .ok (.ireturn, 1) := by decide +kernel
theorem dL_addRest_27 : decode cL_addRest 27 = .ok (.iconst 0, 1) := by decide +kernel
theorem dL_addRest_28 : decode cL_addRest 28 = .ok (.ireturn, 1) := by decide +kernel
theorem dL_removeEvent_0 : decode cL_removeEvent 0 = .ok (.aload 4, 2) := by decide +kernel
theorem dL_removeEvent_2 : decode cL_removeEvent 2 = .ok (.iconst 0, 1) := by decide +kernel
theorem dL_removeEvent_3 : decode cL_removeEvent 3 = .ok (.aload_n 0, 1) := by decide +kernel
theorem dL_removeEvent_4 : decode cL_removeEvent 4 = .ok (.iload_n 1, 1) := by decide +kernel
theorem dL_removeEvent_5 : decode cL_removeEvent 5 = .ok (.iload_n 2, 1) := by decide +kernel
theorem dL_removeEvent_6 : decode cL_removeEvent 6 = .ok (.iload_n 3, 1) := by decide +kernel
theorem dL_removeEvent_7 : decode cL_removeEvent 7 = .ok (.invokevirtual 34, 3) := by decide +kernel
theorem dL_removeEvent_10 : decode cL_removeEvent 10 = .ok (.i2l, 1) := by decide +kernel
theorem dL_removeEvent_11 : decode cL_removeEvent 11 = .ok (.lastore, 1) := by decide +kernel
theorem dL_removeEvent_12 : decode cL_removeEvent 12 = .ok (.goto 7, 3) := by decide +kernel
theorem dL_removeEvent_15 : decode cL_removeEvent 15 = .ok (.astore 5, 2) := by decide +kernel
theorem dL_removeEvent_17 : decode cL_removeEvent 17 = .ok (.iconst 1, 1) := by decide +kernel
theorem dL_removeEvent_18 : decode cL_removeEvent 18 = .ok (.ireturn, 1) := by decide +kernel
theorem dL_removeEvent_19 : decode cL_removeEvent 19 = .ok (.iconst 0, 1) := by decide +kernel
theorem dL_removeEvent_20 : decode cL_removeEvent 20 = .ok (.ireturn, 1) := by decide +kernel
theorem dL_measure_0 : decode cL_measure 0 = .ok (.aload_n 3, 1) := by decide +kernel
theorem dL_measure_1 : decode cL_measure 1 = .ok (.iconst 0, 1) := by decide +kernel
theorem dL_measure_2 : decode cL_measure 2 = .ok (.aload_n 0, 1) := by decide +kernel
theorem dL_measure_3 : decode cL_measure 3 = .ok (.iload_n 1, 1) := by decide +kernel
theorem dL_measure_4 : decode cL_measure 4 = .ok (.iload_n 2, 1) := by decide +kernel
theorem dL_measure_5 : decode cL_measure 5 = .ok (.invokevirtual 37, 3) := by decide +kernel
theorem dL_measure_8 : decode cL_measure 8 = .ok (.i2l, 1) := by decide +kernel
theorem dL_measure_9 : decode cL_measure 9 = .ok (.lastore, 1) := by decide +kernel
theorem dL_measure_10 : decode cL_measure 10 = .ok (.goto 11, 3) := by decide +kernel
theorem dL_measure_13 : decode cL_measure 13 = .ok (.astore 4, 2) := by decide +kernel
theorem dL_measure_15 : decode cL_measure 15 = .ok (.iconst 1, 1) := by decide +kernel
theorem dL_measure_16 : decode cL_measure 16 = .ok (.ireturn, 1) := by decide +kernel
theorem dL_measure_17 : decode cL_measure 17 = .ok (.astore 4, 2) := by decide +kernel
theorem dL_measure_19 : decode cL_measure 19 = .ok (.iconst 2, 1) := by decide +kernel
theorem dL_measure_20 : decode cL_measure 20 = .ok (.ireturn, 1) := by decide +kernel
theorem dL_measure_21 : decode cL_measure 21 = .ok (.iconst 0, 1) := by decide +kernel
theorem dL_measure_22 : decode cL_measure 22 = .ok (.ireturn, 1) := by decide +kernel
theorem dL_event_0 : decode cL_event 0 = .ok (.aload 5, 2) := by decide +kernel
theorem dL_event_2 : decode cL_event 2 = .ok (.iconst 0, 1) := by decide +kernel
theorem dL_event_3 : decode cL_event 3 = .ok (.aload_n 0, 1) := by decide +kernel
theorem dL_event_4 : decode cL_event 4 = .ok (.iload_n 1, 1) := by decide +kernel
theorem dL_event_5 : decode cL_event 5 = .ok (.iload_n 2, 1) := by decide +kernel
theorem dL_event_6 : decode cL_event 6 = .ok (.iload_n 3, 1) := by decide +kernel
theorem dL_event_7 : decode cL_event 7 = .ok (.iload 4, 2) := by decide +kernel
theorem dL_event_9 : decode cL_event 9 = .ok (.invokevirtual 41, 3) := by decide +kernel
theorem dL_event_12 : decode cL_event 12 = .ok (.i2l, 1) := by decide +kernel
theorem dL_event_13 : decode cL_event 13 = .ok (.lastore, 1) := by decide +kernel
theorem dL_event_14 : decode cL_event 14 = .ok (.goto 11, 3) := by decide +kernel
theorem dL_event_17 : decode cL_event 17 = .ok (.astore 6, 2) := by decide +kernel
theorem dL_event_19 : decode cL_event 19 = .ok (.iconst 1, 1) := by decide +kernel
theorem dL_event_20 : decode cL_event 20 = .ok (.ireturn, 1) := by decide +kernel
theorem dL_event_21 : decode cL_event 21 = .ok (.astore 6, 2) := by decide +kernel
theorem dL_event_23 : decode cL_event 23 = .ok (.iconst 2, 1) := by decide +kernel
theorem dL_event_24 : decode cL_event 24 = .ok (.ireturn, 1) := by decide +kernel
theorem dL_event_25 : decode cL_event 25 = .ok (.iconst 0, 1) := by decide +kernel
theorem dL_event_26 : decode cL_event 26 = .ok (.ireturn, 1) := by decide +kernel
theorem dL_eventAt_0 : decode cL_eventAt 0 = .ok (.aload 4, 2) := by decide +kernel
theorem dL_eventAt_2 : decode cL_eventAt 2 = .ok (.iconst 0, 1) := by decide +kernel
theorem dL_eventAt_3 : decode cL_eventAt 3 = .ok (.aload_n 0, 1) := by decide +kernel
theorem dL_eventAt_4 : decode cL_eventAt 4 = .ok (.iload_n 1, 1) := by decide +kernel
theorem dL_eventAt_5 : decode cL_eventAt 5 = .ok (.iload_n 2, 1) := by decide +kernel
theorem dL_eventAt_6 : decode cL_eventAt 6 = .ok (.iload_n 3, 1) := by decide +kernel
theorem dL_eventAt_7 : decode cL_eventAt 7 = .ok (.invokevirtual 45, 3) := by decide +kernel
theorem dL_eventAt_10 : decode cL_eventAt 10 = .ok (.i2l, 1) := by decide +kernel
theorem dL_eventAt_11 : decode cL_eventAt 11 = .ok (.lastore, 1) := by decide +kernel
theorem dL_eventAt_12 : decode cL_eventAt 12 = .ok (.goto 11, 3) := by decide +kernel
theorem dL_eventAt_15 : decode cL_eventAt 15 = .ok (.astore 5, 2) := by decide +kernel
theorem dL_eventAt_17 : decode cL_eventAt 17 = .ok (.iconst 1, 1) := by decide +kernel
theorem dL_eventAt_18 : decode cL_eventAt 18 = .ok (.ireturn, 1) := by decide +kernel
theorem dL_eventAt_19 : decode cL_eventAt 19 = .ok (.astore 5, 2) := by decide +kernel
theorem dL_eventAt_21 : decode cL_eventAt 21 = .ok (.iconst 2, 1) := by decide +kernel
theorem dL_eventAt_22 : decode cL_eventAt 22 = .ok (.ireturn, 1) := by decide +kernel
theorem dL_eventAt_23 : decode cL_eventAt 23 = .ok (.iconst 0, 1) := by decide +kernel
theorem dL_eventAt_24 : decode cL_eventAt 24 = .ok (.ireturn, 1) := by decide +kernel
theorem dL_crossings_0 : decode cL_crossings 0 = .ok (.aload_n 2, 1) := by decide +kernel
theorem dL_crossings_1 : decode cL_crossings 1 = .ok (.iconst 0, 1) := by decide +kernel
theorem dL_crossings_2 : decode cL_crossings 2 = .ok (.aload_n 0, 1) := by decide +kernel
theorem dL_crossings_3 : decode cL_crossings 3 = .ok (.iload_n 1, 1) := by decide +kernel
theorem dL_crossings_4 : decode cL_crossings 4 = .ok (.invokevirtual 48, 3) := by decide +kernel
theorem dL_crossings_7 : decode cL_crossings 7 = .ok (.i2l, 1) := by decide +kernel
theorem dL_crossings_8 : decode cL_crossings 8 = .ok (.lastore, 1) := by decide +kernel
theorem dL_crossings_9 : decode cL_crossings 9 = .ok (.goto 6, 3) := by decide +kernel
theorem dL_crossings_12 : decode cL_crossings 12 = .ok (.astore_n 3, 1) := by decide +kernel
theorem dL_crossings_13 : decode cL_crossings 13 = .ok (.iconst 1, 1) := by decide +kernel
theorem dL_crossings_14 : decode cL_crossings 14 = .ok (.ireturn, 1) := by decide +kernel
theorem dL_crossings_15 : decode cL_crossings 15 = .ok (.iconst 0, 1) := by decide +kernel
theorem dL_crossings_16 : decode cL_crossings 16 = .ok (.ireturn, 1) := by decide +kernel
theorem dL_whole_0 : decode cL_whole 0 = .ok (.aload_n 2, 1) := by decide +kernel
theorem dL_whole_1 : decode cL_whole 1 = .ok (.iconst 0, 1) := by decide +kernel
theorem dL_whole_2 : decode cL_whole 2 = .ok (.aload_n 0, 1) := by decide +kernel
theorem dL_whole_3 : decode cL_whole 3 = .ok (.iload_n 1, 1) := by decide +kernel
theorem dL_whole_4 : decode cL_whole 4 = .ok (.invokevirtual 51, 3) := by decide +kernel
theorem dL_whole_7 : decode cL_whole 7 = .ok (.i2l, 1) := by decide +kernel
theorem dL_whole_8 : decode cL_whole 8 = .ok (.lastore, 1) := by decide +kernel
theorem dL_whole_9 : decode cL_whole 9 = .ok (.goto 6, 3) := by decide +kernel
theorem dL_whole_12 : decode cL_whole 12 = .ok (.astore_n 3, 1) := by decide +kernel
theorem dL_whole_13 : decode cL_whole 13 = .ok (.iconst 1, 1) := by decide +kernel
theorem dL_whole_14 : decode cL_whole 14 = .ok (.ireturn, 1) := by decide +kernel
theorem dL_whole_15 : decode cL_whole 15 = .ok (.iconst 0, 1) := by decide +kernel
theorem dL_whole_16 : decode cL_whole 16 = .ok (.ireturn, 1) := by decide +kernel
theorem dL_order_0 : decode cL_order 0 = .ok (.aload_n 2, 1) := by decide +kernel
theorem dL_order_1 : decode cL_order 1 = .ok (.iconst 0, 1) := by decide +kernel
theorem dL_order_2 : decode cL_order 2 = .ok (.aload_n 0, 1) := by decide +kernel
theorem dL_order_3 : decode cL_order 3 = .ok (.iload_n 1, 1) := by decide +kernel
theorem dL_order_4 : decode cL_order 4 = .ok (.invokevirtual 54, 3) := by decide +kernel
theorem dL_order_7 : decode cL_order 7 = .ok (.i2l, 1) := by decide +kernel
theorem dL_order_8 : decode cL_order 8 = .ok (.lastore, 1) := by decide +kernel
theorem dL_order_9 : decode cL_order 9 = .ok (.goto 6, 3) := by decide +kernel
theorem dL_order_12 : decode cL_order 12 = .ok (.astore_n 3, 1) := by decide +kernel
theorem dL_order_13 : decode cL_order 13 = .ok (.iconst 1, 1) := by decide +kernel
theorem dL_order_14 : decode cL_order 14 = .ok (.ireturn, 1) := by decide +kernel
theorem dL_order_15 : decode cL_order 15 = .ok (.iconst 0, 1) := by decide +kernel
theorem dL_order_16 : decode cL_order 16 = .ok (.ireturn, 1) := by decide +kernel
theorem dL_timesPlayed_0 : decode cL_timesPlayed 0 = .ok (.aload_n 2, 1) := by decide +kernel
theorem dL_timesPlayed_1 : decode cL_timesPlayed 1 = .ok (.iconst 0, 1) := by decide +kernel
theorem dL_timesPlayed_2 : decode cL_timesPlayed 2 = .ok (.aload_n 0, 1) := by decide +kernel
theorem dL_timesPlayed_3 : decode cL_timesPlayed 3 = .ok (.iload_n 1, 1) := by decide +kernel
theorem dL_timesPlayed_4 : decode cL_timesPlayed 4 = .ok (.invokevirtual 57, 3) := by decide +kernel
theorem dL_timesPlayed_7 : decode cL_timesPlayed 7 = .ok (.i2l, 1) := by decide +kernel
theorem dL_timesPlayed_8 : decode cL_timesPlayed 8 = .ok (.lastore, 1) := by decide +kernel
theorem dL_timesPlayed_9 : decode cL_timesPlayed 9 = .ok (.goto 6, 3) := by decide +kernel
theorem dL_timesPlayed_12 : decode cL_timesPlayed 12 = .ok (.astore_n 3, 1) := by decide +kernel
theorem dL_timesPlayed_13 : decode cL_timesPlayed 13 = .ok (.iconst 1, 1) := by decide +kernel
theorem dL_timesPlayed_14 : decode cL_timesPlayed 14 = .ok (.ireturn, 1) := by decide +kernel
theorem dL_timesPlayed_15 : decode cL_timesPlayed 15 = .ok (.iconst 0, 1) := by decide +kernel
theorem dL_timesPlayed_16 : decode cL_timesPlayed 16 = .ok (.ireturn, 1) := by decide +kernel
theorem dL_seconds_0 : decode cL_seconds 0 = .ok (.aload_n 2, 1) := by decide +kernel
theorem dL_seconds_1 : decode cL_seconds 1 = .ok (.iconst 0, 1) := by decide +kernel
theorem dL_seconds_2 : decode cL_seconds 2 = .ok (.aload_n 0, 1) := by decide +kernel
theorem dL_seconds_3 : decode cL_seconds 3 = .ok (.iload_n 1, 1) := by decide +kernel
theorem dL_seconds_4 : decode cL_seconds 4 = .ok (.invokevirtual 60, 3) := by decide +kernel
theorem dL_seconds_7 : decode cL_seconds 7 = .ok (.f2d, 1) := by decide +kernel
theorem dL_seconds_8 : decode cL_seconds 8 = .ok (.dastore, 1) := by decide +kernel
theorem dL_seconds_9 : decode cL_seconds 9 = .ok (.goto 6, 3) := by decide +kernel
theorem dL_seconds_12 : decode cL_seconds 12 = .ok (.astore_n 3, 1) := by decide +kernel
theorem dL_seconds_13 : decode cL_seconds 13 = .ok (.iconst 1, 1) := by decide +kernel
theorem dL_seconds_14 : decode cL_seconds 14 = .ok (.ireturn, 1) := by decide +kernel
theorem dL_seconds_15 : decode cL_seconds 15 = .ok (.iconst 0, 1) := by decide +kernel
theorem dL_seconds_16 : decode cL_seconds 16 = .ok (.ireturn, 1) := by decide +kernel
theorem dL_placeAt_0 : decode cL_placeAt 0 = .ok (.aload_n 2, 1) := by decide +kernel
theorem dL_placeAt_1 : decode cL_placeAt 1 = .ok (.iconst 0, 1) := by decide +kernel
theorem dL_placeAt_2 : decode cL_placeAt 2 = .ok (.aload_n 0, 1) := by decide +kernel
theorem dL_placeAt_3 : decode cL_placeAt 3 = .ok (.iload_n 1, 1) := by decide +kernel
theorem dL_placeAt_4 : decode cL_placeAt 4 = .ok (.invokevirtual 64, 3) := by decide +kernel
theorem dL_placeAt_7 : decode cL_placeAt 7 = .ok (.i2l, 1) := by decide +kernel
theorem dL_placeAt_8 : decode cL_placeAt 8 = .ok (.lastore, 1) := by decide +kernel
theorem dL_placeAt_9 : decode cL_placeAt 9 = .ok (.goto 6, 3) := by decide +kernel
theorem dL_placeAt_12 : decode cL_placeAt 12 = .ok (.astore_n 3, 1) := by decide +kernel
theorem dL_placeAt_13 : decode cL_placeAt 13 = .ok (.iconst 1, 1) := by decide +kernel
theorem dL_placeAt_14 : decode cL_placeAt 14 = .ok (.ireturn, 1) := by decide +kernel
theorem dL_placeAt_15 : decode cL_placeAt 15 = .ok (.iconst 0, 1) := by decide +kernel
theorem dL_placeAt_16 : decode cL_placeAt 16 = .ok (.ireturn, 1) := by decide +kernel
theorem dL_sentenceLength_0 : decode cL_sentenceLength 0 = .ok (.aload_n 2, 1) := by decide +kernel
theorem dL_sentenceLength_1 : decode cL_sentenceLength 1 = .ok (.iconst 0, 1) := by decide +kernel
theorem dL_sentenceLength_2 : decode cL_sentenceLength 2 = .ok (.aload_n 0, 1) := by decide +kernel
theorem dL_sentenceLength_3 : decode cL_sentenceLength 3 = .ok (.iload_n 1, 1) := by decide +kernel
theorem dL_sentenceLength_4 : decode cL_sentenceLength 4 = .ok (.invokevirtual 67, 3) := by decide +kernel
theorem dL_sentenceLength_7 : decode cL_sentenceLength 7 = .ok (.i2l, 1) := by decide +kernel
theorem dL_sentenceLength_8 : decode cL_sentenceLength 8 = .ok (.lastore, 1) := by decide +kernel
theorem dL_sentenceLength_9 : decode cL_sentenceLength 9 = .ok (.goto 6, 3) := by decide +kernel
theorem dL_sentenceLength_12 : decode cL_sentenceLength 12 = .ok (.astore_n 3, 1) := by decide +kernel
theorem dL_sentenceLength_13 : decode cL_sentenceLength 13 = .ok (.iconst 1, 1) := by decide +kernel
theorem dL_sentenceLength_14 : decode cL_sentenceLength 14 = .ok (.ireturn, 1) := by decide +kernel
theorem dL_sentenceLength_15 : decode cL_sentenceLength 15 = .ok (.iconst 0, 1) := by decide +kernel
theorem dL_sentenceLength_16 : decode cL_sentenceLength 16 = .ok (.ireturn, 1) := by decide +kernel
theorem dL_sentenceByte_0 : decode cL_sentenceByte 0 = .ok (.aload_n 3, 1) := by decide +kernel
theorem dL_sentenceByte_1 : decode cL_sentenceByte 1 = .ok (.iconst 0, 1) := by decide +kernel
theorem dL_sentenceByte_2 : decode cL_sentenceByte 2 = .ok (.aload_n 0, 1) := by decide +kernel
theorem dL_sentenceByte_3 : decode cL_sentenceByte 3 = .ok (.iload_n 1, 1) := by decide +kernel
theorem dL_sentenceByte_4 : decode cL_sentenceByte 4 = .ok (.iload_n 2, 1) := by decide +kernel
theorem dL_sentenceByte_5 : decode cL_sentenceByte 5 = .ok (.invokevirtual 70, 3) := by decide +kernel
theorem dL_sentenceByte_8 : decode cL_sentenceByte 8 = .ok (.i2l, 1) := by decide +kernel
theorem dL_sentenceByte_9 : decode cL_sentenceByte 9 = .ok (.lastore, 1) := by decide +kernel
theorem dL_sentenceByte_10 : decode cL_sentenceByte 10 = .ok (.goto 11, 3) := by decide +kernel
theorem dL_sentenceByte_13 : decode cL_sentenceByte 13 = .ok (.astore 4, 2) := by decide +kernel
theorem dL_sentenceByte_15 : decode cL_sentenceByte 15 = .ok (.iconst 1, 1) := by decide +kernel
theorem dL_sentenceByte_16 : decode cL_sentenceByte 16 = .ok (.ireturn, 1) := by decide +kernel
theorem dL_sentenceByte_17 : decode cL_sentenceByte 17 = .ok (.astore 4, 2) := by decide +kernel
theorem dL_sentenceByte_19 : decode cL_sentenceByte 19 = .ok (.iconst 2, 1) := by decide +kernel
theorem dL_sentenceByte_20 : decode cL_sentenceByte 20 = .ok (.ireturn, 1) := by decide +kernel
theorem dL_sentenceByte_21 : decode cL_sentenceByte 21 = .ok (.iconst 0, 1) := by decide +kernel
theorem dL_sentenceByte_22 : decode cL_sentenceByte 22 = .ok (.ireturn, 1) := by decide +kernel
theorem dL_words_0 : decode cL_words 0 = .ok (.aload_n 2, 1) := by decide +kernel
theorem dL_words_1 : decode cL_words 1 = .ok (.iconst 0, 1) := by decide +kernel
theorem dL_words_2 : decode cL_words 2 = .ok (.aload_n 0, 1) := by decide +kernel
theorem dL_words_3 : decode cL_words 3 = .ok (.iload_n 1, 1) := by decide +kernel
theorem dL_words_4 : decode cL_words 4 = .ok (.invokevirtual 73, 3) := by decide +kernel
theorem dL_words_7 : decode cL_words 7 = .ok (.i2l, 1) := by decide +kernel
theorem dL_words_8 : decode cL_words 8 = .ok (.lastore, 1) := by decide +kernel
theorem dL_words_9 : decode cL_words 9 = .ok (.goto 6, 3) := by decide +kernel
theorem dL_words_12 : decode cL_words 12 = .ok (.astore_n 3, 1) := by decide +kernel
theorem dL_words_13 : decode cL_words 13 = .ok (.iconst 1, 1) := by decide +kernel
theorem dL_words_14 : decode cL_words 14 = .ok (.ireturn, 1) := by decide +kernel
theorem dL_words_15 : decode cL_words 15 = .ok (.iconst 0, 1) := by decide +kernel
theorem dL_words_16 : decode cL_words 16 = .ok (.ireturn, 1) := by decide +kernel
theorem dL_copySentence_0 : decode cL_copySentence 0 = .ok (.aload_n 2, 1) := by decide +kernel
theorem dL_copySentence_1 : decode cL_copySentence 1 = .ok (.iconst 0, 1) := by decide +kernel
theorem dL_copySentence_2 : decode cL_copySentence 2 = .ok (.aload_n 0, 1) := by decide +kernel
theorem dL_copySentence_3 : decode cL_copySentence 3 = .ok (.iload_n 1, 1) := by decide +kernel
theorem dL_copySentence_4 : decode cL_copySentence 4 = .ok (.invokevirtual 76, 3) := by decide +kernel
theorem dL_copySentence_7 : decode cL_copySentence 7 = .ok (.i2l, 1) := by decide +kernel
theorem dL_copySentence_8 : decode cL_copySentence 8 = .ok (.lastore, 1) := by decide +kernel
theorem dL_copySentence_9 : decode cL_copySentence 9 = .ok (.goto 9, 3) := by decide +kernel
theorem dL_copySentence_12 : decode cL_copySentence 12 = .ok (.astore_n 3, 1) := by decide +kernel
theorem dL_copySentence_13 : decode cL_copySentence 13 = .ok (.iconst 1, 1) := by decide +kernel
theorem dL_copySentence_14 : decode cL_copySentence 14 = .ok (.ireturn, 1) := by decide +kernel
theorem dL_copySentence_15 : decode cL_copySentence 15 = .ok (.astore_n 3, 1) := by decide +kernel
theorem dL_copySentence_16 : decode cL_copySentence 16 = .ok (.iconst 2, 1) := by decide +kernel
theorem dL_copySentence_17 : decode cL_copySentence 17 = .ok (.ireturn, 1) := by decide +kernel
theorem dL_copySentence_18 : decode cL_copySentence 18 = .ok (.iconst 0, 1) := by decide +kernel
theorem dL_copySentence_19 : decode cL_copySentence 19 = .ok (.ireturn, 1) := by decide +kernel
theorem dL_type_0 : decode cL_type 0 = .ok (.aload_n 2, 1) := by decide +kernel
theorem dL_type_1 : decode cL_type 1 = .ok (.iconst 0, 1) := by decide +kernel
theorem dL_type_2 : decode cL_type 2 = .ok (.aload_n 0, 1) := by decide +kernel
theorem dL_type_3 : decode cL_type 3 = .ok (.iload_n 1, 1) := by decide +kernel
theorem dL_type_4 : decode cL_type 4 = .ok (.invokevirtual 79, 3) := by decide +kernel
theorem dL_type_7 : decode cL_type 7 = .ok (.i2l, 1) := by decide +kernel
theorem dL_type_8 : decode cL_type 8 = .ok (.lastore, 1) := by decide +kernel
theorem dL_type_9 : decode cL_type 9 = .ok (.goto 9, 3) := by decide +kernel
theorem dL_type_12 : decode cL_type 12 = .ok (.astore_n 3, 1) := by decide +kernel
theorem dL_type_13 : decode cL_type 13 = .ok (.iconst 1, 1) := by decide +kernel
theorem dL_type_14 : decode cL_type 14 = .ok (.ireturn, 1) := by decide +kernel
theorem dL_type_15 : decode cL_type 15 = .ok (.astore_n 3, 1) := by decide +kernel
theorem dL_type_16 : decode cL_type 16 = .ok (.iconst 2, 1) := by decide +kernel
theorem dL_type_17 : decode cL_type 17 = .ok (.ireturn, 1) := by decide +kernel
theorem dL_type_18 : decode cL_type 18 = .ok (.iconst 0, 1) := by decide +kernel
theorem dL_type_19 : decode cL_type 19 = .ok (.ireturn, 1) := by decide +kernel
theorem dL_cut_0 : decode cL_cut 0 = .ok (.aload_n 2, 1) := by decide +kernel
theorem dL_cut_1 : decode cL_cut 1 = .ok (.iconst 0, 1) := by decide +kernel
theorem dL_cut_2 : decode cL_cut 2 = .ok (.aload_n 0, 1) := by decide +kernel
theorem dL_cut_3 : decode cL_cut 3 = .ok (.iload_n 1, 1) := by decide +kernel
theorem dL_cut_4 : decode cL_cut 4 = .ok (.invokevirtual 82, 3) := by decide +kernel
theorem dL_cut_7 : decode cL_cut 7 = .ok (.i2l, 1) := by decide +kernel
theorem dL_cut_8 : decode cL_cut 8 = .ok (.lastore, 1) := by decide +kernel
theorem dL_cut_9 : decode cL_cut 9 = .ok (.goto 9, 3) := by decide +kernel
theorem dL_cut_12 : decode cL_cut 12 = .ok (.astore_n 3, 1) := by decide +kernel
theorem dL_cut_13 : decode cL_cut 13 = .ok (.iconst 1, 1) := by decide +kernel
theorem dL_cut_14 : decode cL_cut 14 = .ok (.ireturn, 1) := by decide +kernel
theorem dL_cut_15 : decode cL_cut 15 = .ok (.astore_n 3, 1) := by decide +kernel
theorem dL_cut_16 : decode cL_cut 16 = .ok (.iconst 2, 1) := by decide +kernel
theorem dL_cut_17 : decode cL_cut 17 = .ok (.ireturn, 1) := by decide +kernel
theorem dL_cut_18 : decode cL_cut 18 = .ok (.iconst 0, 1) := by decide +kernel
theorem dL_cut_19 : decode cL_cut 19 = .ok (.ireturn, 1) := by decide +kernel
theorem dL_readInto_0 : decode cL_readInto 0 = .ok (.aload_n 2, 1) := by decide +kernel
theorem dL_readInto_1 : decode cL_readInto 1 = .ok (.iconst 0, 1) := by decide +kernel
theorem dL_readInto_2 : decode cL_readInto 2 = .ok (.aload_n 0, 1) := by decide +kernel
theorem dL_readInto_3 : decode cL_readInto 3 = .ok (.iload_n 1, 1) := by decide +kernel
theorem dL_readInto_4 : decode cL_readInto 4 = .ok (.invokevirtual 85, 3) := by decide +kernel
theorem dL_readInto_7 : decode cL_readInto 7 = .ok (.i2l, 1) := by decide +kernel
theorem dL_readInto_8 : decode cL_readInto 8 = .ok (.lastore, 1) := by decide +kernel
theorem dL_readInto_9 : decode cL_readInto 9 = .ok (.goto 6, 3) := by decide +kernel
theorem dL_readInto_12 : decode cL_readInto 12 = .ok (.astore_n 3, 1) := by decide +kernel
theorem dL_readInto_13 : decode cL_readInto 13 = .ok (.iconst 1, 1) := by decide +kernel
theorem dL_readInto_14 : decode cL_readInto 14 = .ok (.ireturn, 1) := by decide +kernel
theorem dL_readInto_15 : decode cL_readInto 15 = .ok (.iconst 0, 1) := by decide +kernel
theorem dL_readInto_16 : decode cL_readInto 16 = .ok (.ireturn, 1) := by decide +kernel
theorem dL_tells_0 : decode cL_tells 0 = .ok (.aload_n 2, 1) := by decide +kernel
theorem dL_tells_1 : decode cL_tells 1 = .ok (.iconst 0, 1) := by decide +kernel
theorem dL_tells_2 : decode cL_tells 2 = .ok (.aload_n 0, 1) := by decide +kernel
theorem dL_tells_3 : decode cL_tells 3 = .ok (.iload_n 1, 1) := by decide +kernel
theorem dL_tells_4 : decode cL_tells 4 = .ok (.invokevirtual 88, 3) := by decide +kernel
theorem dL_tells_7 : decode cL_tells 7 = .ok (.ifCond .eq 7, 3) := by decide +kernel
theorem dL_tells_10 : decode cL_tells 10 = .ok (.lconst 1, 1) := by decide +kernel
theorem dL_tells_11 : decode cL_tells 11 = .ok (.goto 4, 3) := by decide +kernel
theorem dL_tells_14 : decode cL_tells 14 = .ok (.lconst 0, 1) := by decide +kernel
theorem dL_tells_15 : decode cL_tells 15 = .ok (.lastore, 1) := by decide +kernel
theorem dL_tells_16 : decode cL_tells 16 = .ok (.goto 6, 3) := by decide +kernel
theorem dL_tells_19 : decode cL_tells 19 = .ok (.astore_n 3, 1) := by decide +kernel
theorem dL_tells_20 : decode cL_tells 20 = .ok (.iconst 1, 1) := by decide +kernel
theorem dL_tells_21 : decode cL_tells 21 = .ok (.ireturn, 1) := by decide +kernel
theorem dL_tells_22 : decode cL_tells 22 = .ok (.iconst 0, 1) := by decide +kernel
theorem dL_tells_23 : decode cL_tells 23 = .ok (.ireturn, 1) := by decide +kernel
theorem dL_changedBy_0 : decode cL_changedBy 0 = .ok (.aload_n 3, 1) := by decide +kernel
theorem dL_changedBy_1 : decode cL_changedBy 1 = .ok (.iconst 0, 1) := by decide +kernel
theorem dL_changedBy_2 : decode cL_changedBy 2 = .ok (.aload_n 0, 1) := by decide +kernel
theorem dL_changedBy_3 : decode cL_changedBy 3 = .ok (.iload_n 1, 1) := by decide +kernel
theorem dL_changedBy_4 : decode cL_changedBy 4 = .ok (.iload_n 2, 1) := by decide +kernel
theorem dL_changedBy_5 : decode cL_changedBy 5 = .ok (.invokevirtual 92, 3) := by decide +kernel
theorem dL_changedBy_8 : decode cL_changedBy 8 = .ok (.i2l, 1) := by decide +kernel
theorem dL_changedBy_9 : decode cL_changedBy 9 = .ok (.lastore, 1) := by decide +kernel
theorem dL_changedBy_10 : decode cL_changedBy 10 = .ok (.goto 11, 3) := by decide +kernel
theorem dL_changedBy_13 : decode cL_changedBy 13 = .ok (.astore 4, 2) := by decide +kernel
theorem dL_changedBy_15 : decode cL_changedBy 15 = .ok (.iconst 1, 1) := by decide +kernel
theorem dL_changedBy_16 : decode cL_changedBy 16 = .ok (.ireturn, 1) := by decide +kernel
theorem dL_changedBy_17 : decode cL_changedBy 17 = .ok (.astore 4, 2) := by decide +kernel
theorem dL_changedBy_19 : decode cL_changedBy 19 = .ok (.iconst 2, 1) := by decide +kernel
theorem dL_changedBy_20 : decode cL_changedBy 20 = .ok (.ireturn, 1) := by decide +kernel
theorem dL_changedBy_21 : decode cL_changedBy 21 = .ok (.iconst 0, 1) := by decide +kernel
theorem dL_changedBy_22 : decode cL_changedBy 22 = .ok (.ireturn, 1) := by decide +kernel
theorem dL_nearestKey_0 : decode cL_nearestKey 0 = .ok (.aload_n 2, 1) := by decide +kernel
theorem dL_nearestKey_1 : decode cL_nearestKey 1 = .ok (.iconst 0, 1) := by decide +kernel
theorem dL_nearestKey_2 : decode cL_nearestKey 2 = .ok (.aload_n 0, 1) := by decide +kernel
theorem dL_nearestKey_3 : decode cL_nearestKey 3 = .ok (.iload_n 1, 1) := by decide +kernel
theorem dL_nearestKey_4 : decode cL_nearestKey 4 = .ok (.invokevirtual 95, 3) := by decide +kernel
theorem dL_nearestKey_7 : decode cL_nearestKey 7 = .ok (.i2l, 1) := by decide +kernel
theorem dL_nearestKey_8 : decode cL_nearestKey 8 = .ok (.lastore, 1) := by decide +kernel
theorem dL_nearestKey_9 : decode cL_nearestKey 9 = .ok (.goto 6, 3) := by decide +kernel
theorem dL_nearestKey_12 : decode cL_nearestKey 12 = .ok (.astore_n 3, 1) := by decide +kernel
theorem dL_nearestKey_13 : decode cL_nearestKey 13 = .ok (.iconst 1, 1) := by decide +kernel
theorem dL_nearestKey_14 : decode cL_nearestKey 14 = .ok (.ireturn, 1) := by decide +kernel
theorem dL_nearestKey_15 : decode cL_nearestKey 15 = .ok (.iconst 0, 1) := by decide +kernel
theorem dL_nearestKey_16 : decode cL_nearestKey 16 = .ok (.ireturn, 1) := by decide +kernel
theorem dL_needlessSigns_0 : decode cL_needlessSigns 0 = .ok (.aload_n 2, 1) := by decide +kernel
theorem dL_needlessSigns_1 : decode cL_needlessSigns 1 = .ok (.iconst 0, 1) := by decide +kernel
theorem dL_needlessSigns_2 : decode cL_needlessSigns 2 = .ok (.aload_n 0, 1) := by decide +kernel
theorem dL_needlessSigns_3 : decode cL_needlessSigns 3 = .ok (.iload_n 1, 1) := by decide +kernel
theorem dL_needlessSigns_4 : decode cL_needlessSigns 4 = .ok (.invokevirtual 98, 3) := by decide +kernel
theorem dL_needlessSigns_7 : decode cL_needlessSigns 7 = .ok (.i2l, 1) := by decide +kernel
theorem dL_needlessSigns_8 : decode cL_needlessSigns 8 = .ok (.lastore, 1) := by decide +kernel
theorem dL_needlessSigns_9 : decode cL_needlessSigns 9 = .ok (.goto 6, 3) := by decide +kernel
theorem dL_needlessSigns_12 : decode cL_needlessSigns 12 = .ok (.astore_n 3, 1) := by decide +kernel
theorem dL_needlessSigns_13 : decode cL_needlessSigns 13 = .ok (.iconst 1, 1) := by decide +kernel
theorem dL_needlessSigns_14 : decode cL_needlessSigns 14 = .ok (.ireturn, 1) := by decide +kernel
theorem dL_needlessSigns_15 : decode cL_needlessSigns 15 = .ok (.iconst 0, 1) := by decide +kernel
theorem dL_needlessSigns_16 : decode cL_needlessSigns 16 = .ok (.ireturn, 1) := by decide +kernel
theorem dL_undo_0 : decode cL_undo 0 = .ok (.aload_n 1, 1) := by decide +kernel
theorem dL_undo_1 : decode cL_undo 1 = .ok (.iconst 0, 1) := by decide +kernel
theorem dL_undo_2 : decode cL_undo 2 = .ok (.aload_n 0, 1) := by decide +kernel
theorem dL_undo_3 : decode cL_undo 3 = .ok (.invokevirtual 101, 3) := by decide +kernel
theorem dL_undo_6 : decode cL_undo 6 = .ok (.i2l, 1) := by decide +kernel
theorem dL_undo_7 : decode cL_undo 7 = .ok (.lastore, 1) := by decide +kernel
theorem dL_undo_8 : decode cL_undo 8 = .ok (.goto 6, 3) := by decide +kernel
theorem dL_undo_11 : decode cL_undo 11 = .ok (.astore_n 2, 1) := by decide +kernel
theorem dL_undo_12 : decode cL_undo 12 = .ok (.iconst 1, 1) := by decide +kernel
theorem dL_undo_13 : decode cL_undo 13 = .ok (.ireturn, 1) := by decide +kernel
theorem dL_undo_14 : decode cL_undo 14 = .ok (.iconst 0, 1) := by decide +kernel
theorem dL_undo_15 : decode cL_undo 15 = .ok (.ireturn, 1) := by decide +kernel
theorem dL_law_0 : decode cL_law 0 = .ok (.new 8, 3) := by decide +kernel
theorem dL_law_3 : decode cL_law 3 = .ok (.dup, 1) := by decide +kernel
theorem dL_law_4 : decode cL_law 4 = .ok (.invokespecial 104, 3) := by decide +kernel
theorem dL_law_7 : decode cL_law 7 = .ok (.astore_n 1, 1) := by decide +kernel
theorem dL_law_8 : decode cL_law 8 = .ok (.new 105, 3) := by decide +kernel
theorem dL_law_11 : decode cL_law 11 = .ok (.dup, 1) := by decide +kernel
theorem dL_law_12 : decode cL_law 12 = .ok (.invokespecial 107, 3) := by decide +kernel
theorem dL_law_15 : decode cL_law 15 = .ok (.astore_n 2, 1) := by decide +kernel
theorem dL_law_16 : decode cL_law 16 = .ok (.iconst 1, 1) := by decide +kernel
theorem dL_law_17 : decode cL_law 17 = .ok (.newarray .long, 2) := by decide +kernel
theorem dL_law_19 : decode cL_law 19 = .ok (.astore_n 3, 1) := by decide +kernel
theorem dL_law_20 : decode cL_law 20 = .ok (.iconst 1, 1) := by decide +kernel
theorem dL_law_21 : decode cL_law 21 = .ok (.newarray .double, 2) := by decide +kernel
theorem dL_law_23 : decode cL_law 23 = .ok (.astore 4, 2) := by decide +kernel
theorem dL_law_25 : decode cL_law 25 = .ok (.iconst 0, 1) := by decide +kernel
theorem dL_law_26 : decode cL_law 26 = .ok (.istore 5, 2) := by decide +kernel
theorem dL_law_28 : decode cL_law 28 = .ok (.iload 5, 2) := by decide +kernel
theorem dL_law_30 : decode cL_law 30 = .ok (.aload_n 0, 1) := by decide +kernel
theorem dL_law_31 : decode cL_law 31 = .ok (.arraylength, 1) := by decide +kernel
theorem dL_law_32 : decode cL_law 32 = .ok (.bipush 7, 2) := by decide +kernel
theorem dL_law_34 : decode cL_law 34 = .ok (.isub, 1) := by decide +kernel
theorem dL_law_35 : decode cL_law 35 = .ok (.if_icmp .gt 1954, 3) := by decide +kernel
theorem dL_law_38 : decode cL_law 38 = .ok (.aload_n 0, 1) := by decide +kernel
theorem dL_law_39 : decode cL_law 39 = .ok (.iload 5, 2) := by decide +kernel
theorem dL_law_41 : decode cL_law 41 = .ok (.iaload, 1) := by decide +kernel
theorem dL_law_42 : decode cL_law 42 = .ok (.bipush 31, 2) := by decide +kernel
theorem dL_law_44 : decode cL_law 44 = .ok (.iand, 1) := by decide +kernel
theorem dL_law_45 : decode cL_law 45 = .ok (.tableswitch 1938 0 29 #[135, 179, 235, 315, 449, 529, 609, 677, 769, 849, 905, 961, 1017, 1073, 1151, 1207, 1263, 1331, 1387, 1443, 1499, 1555, 1568, 1581, 1637, 1700, 1768, 1824, 1880, 1924], 135) := by decide +kernel
theorem dL_law_180 : decode cL_law 180 = .ok (.aload_n 1, 1) := by decide +kernel
theorem dL_law_181 : decode cL_law 181 = .ok (.aload_n 3, 1) := by decide +kernel
theorem dL_law_182 : decode cL_law 182 = .ok (.invokestatic 108, 3) := by decide +kernel
theorem dL_law_185 : decode cL_law 185 = .ok (.istore 6, 2) := by decide +kernel
theorem dL_law_187 : decode cL_law 187 = .ok (.aload_n 2, 1) := by decide +kernel
theorem dL_law_188 : decode cL_law 188 = .ok (.invokevirtual 113, 3) := by decide +kernel
theorem dL_law_191 : decode cL_law 191 = .ok (.istore 7, 2) := by decide +kernel
theorem dL_law_193 : decode cL_law 193 = .ok (.aload_n 2, 1) := by decide +kernel
theorem dL_law_194 : decode cL_law 194 = .ok (.invokevirtual 114, 3) := by decide +kernel
theorem dL_law_197 : decode cL_law 197 = .ok (.iload 6, 2) := by decide +kernel
theorem dL_law_199 : decode cL_law 199 = .ok (.if_icmp .eq 5, 3) := by decide +kernel
theorem dL_law_202 : decode cL_law 202 = .ok (.iconst 0, 1) := by decide +kernel
theorem dL_law_203 : decode cL_law 203 = .ok (.ireturn, 1) := by decide +kernel
theorem dL_law_204 : decode cL_law 204 = .ok (.iload 6, 2) := by decide +kernel
theorem dL_law_206 : decode cL_law 206 = .ok (.ifCond .ne 15, 3) := by decide +kernel
theorem dL_law_209 : decode cL_law 209 = .ok (.aload_n 3, 1) := by decide +kernel
theorem dL_law_210 : decode cL_law 210 = .ok (.iconst 0, 1) := by decide +kernel
theorem dL_law_211 : decode cL_law 211 = .ok (.laload, 1) := by decide +kernel
theorem dL_law_212 : decode cL_law 212 = .ok (.iload 7, 2) := by decide +kernel
theorem dL_law_214 : decode cL_law 214 = .ok (.i2l, 1) := by decide +kernel
theorem dL_law_215 : decode cL_law 215 = .ok (.lcmp, 1) := by decide +kernel
theorem dL_law_216 : decode cL_law 216 = .ok (.ifCond .eq 5, 3) := by decide +kernel
theorem dL_law_219 : decode cL_law 219 = .ok (.iconst 0, 1) := by decide +kernel
theorem dL_law_220 : decode cL_law 220 = .ok (.ireturn, 1) := by decide +kernel
theorem dL_law_221 : decode cL_law 221 = .ok (.goto 1762, 3) := by decide +kernel
theorem dL_law_224 : decode cL_law 224 = .ok (.aload_n 1, 1) := by decide +kernel
theorem dL_law_225 : decode cL_law 225 = .ok (.aload_n 0, 1) := by decide +kernel
theorem dL_law_226 : decode cL_law 226 = .ok (.iload 5, 2) := by decide +kernel
theorem dL_law_228 : decode cL_law 228 = .ok (.iconst 1, 1) := by decide +kernel
theorem dL_law_229 : decode cL_law 229 = .ok (.iadd, 1) := by decide +kernel
theorem dL_law_230 : decode cL_law 230 = .ok (.iaload, 1) := by decide +kernel
theorem dL_law_231 : decode cL_law 231 = .ok (.aload_n 3, 1) := by decide +kernel
theorem dL_law_232 : decode cL_law 232 = .ok (.invokestatic 117, 3) := by decide +kernel
theorem dL_law_235 : decode cL_law 235 = .ok (.istore 6, 2) := by decide +kernel
theorem dL_law_237 : decode cL_law 237 = .ok (.aload_n 2, 1) := by decide +kernel
theorem dL_law_238 : decode cL_law 238 = .ok (.aload_n 0, 1) := by decide +kernel
theorem dL_law_239 : decode cL_law 239 = .ok (.iload 5, 2) := by decide +kernel
theorem dL_law_241 : decode cL_law 241 = .ok (.iconst 1, 1) := by decide +kernel
theorem dL_law_242 : decode cL_law 242 = .ok (.iadd, 1) := by decide +kernel
theorem dL_law_243 : decode cL_law 243 = .ok (.iaload, 1) := by decide +kernel
theorem dL_law_244 : decode cL_law 244 = .ok (.invokevirtual 120, 3) := by decide +kernel
theorem dL_law_247 : decode cL_law 247 = .ok (.istore 7, 2) := by decide +kernel
theorem dL_law_249 : decode cL_law 249 = .ok (.aload_n 2, 1) := by decide +kernel
theorem dL_law_250 : decode cL_law 250 = .ok (.invokevirtual 114, 3) := by decide +kernel
theorem dL_law_253 : decode cL_law 253 = .ok (.iload 6, 2) := by decide +kernel
theorem dL_law_255 : decode cL_law 255 = .ok (.if_icmp .eq 5, 3) := by decide +kernel
theorem dL_law_258 : decode cL_law 258 = .ok (.iconst 0, 1) := by decide +kernel
theorem dL_law_259 : decode cL_law 259 = .ok (.ireturn, 1) := by decide +kernel
theorem dL_law_260 : decode cL_law 260 = .ok (.iload 6, 2) := by decide +kernel
theorem dL_law_262 : decode cL_law 262 = .ok (.ifCond .ne 15, 3) := by decide +kernel
theorem dL_law_265 : decode cL_law 265 = .ok (.aload_n 3, 1) := by decide +kernel
theorem dL_law_266 : decode cL_law 266 = .ok (.iconst 0, 1) := by decide +kernel
theorem dL_law_267 : decode cL_law 267 = .ok (.laload, 1) := by decide +kernel
theorem dL_law_268 : decode cL_law 268 = .ok (.iload 7, 2) := by decide +kernel
theorem dL_law_270 : decode cL_law 270 = .ok (.i2l, 1) := by decide +kernel
theorem dL_law_271 : decode cL_law 271 = .ok (.lcmp, 1) := by decide +kernel
theorem dL_law_272 : decode cL_law 272 = .ok (.ifCond .eq 5, 3) := by decide +kernel
theorem dL_law_275 : decode cL_law 275 = .ok (.iconst 0, 1) := by decide +kernel
theorem dL_law_276 : decode cL_law 276 = .ok (.ireturn, 1) := by decide +kernel
theorem dL_law_277 : decode cL_law 277 = .ok (.goto 1706, 3) := by decide +kernel
theorem dL_law_280 : decode cL_law 280 = .ok (.aload_n 1, 1) := by decide +kernel
theorem dL_law_281 : decode cL_law 281 = .ok (.aload_n 0, 1) := by decide +kernel
theorem dL_law_282 : decode cL_law 282 = .ok (.iload 5, 2) := by decide +kernel
theorem dL_law_284 : decode cL_law 284 = .ok (.iconst 1, 1) := by decide +kernel
theorem dL_law_285 : decode cL_law 285 = .ok (.iadd, 1) := by decide +kernel
theorem dL_law_286 : decode cL_law 286 = .ok (.iaload, 1) := by decide +kernel
theorem dL_law_287 : decode cL_law 287 = .ok (.aload_n 0, 1) := by decide +kernel
theorem dL_law_288 : decode cL_law 288 = .ok (.iload 5, 2) := by decide +kernel
theorem dL_law_290 : decode cL_law 290 = .ok (.iconst 2, 1) := by decide +kernel
theorem dL_law_291 : decode cL_law 291 = .ok (.iadd, 1) := by decide +kernel
theorem dL_law_292 : decode cL_law 292 = .ok (.iaload, 1) := by decide +kernel
theorem dL_law_293 : decode cL_law 293 = .ok (.aload_n 0, 1) := by decide +kernel
theorem dL_law_294 : decode cL_law 294 = .ok (.iload 5, 2) := by decide +kernel
theorem dL_law_296 : decode cL_law 296 = .ok (.iconst 3, 1) := by decide +kernel
theorem dL_law_297 : decode cL_law 297 = .ok (.iadd, 1) := by decide +kernel
theorem dL_law_298 : decode cL_law 298 = .ok (.iaload, 1) := by decide +kernel
theorem dL_law_299 : decode cL_law 299 = .ok (.aload_n 3, 1) := by decide +kernel
theorem dL_law_300 : decode cL_law 300 = .ok (.invokestatic 121, 3) := by decide +kernel
theorem dL_law_303 : decode cL_law 303 = .ok (.istore 6, 2) := by decide +kernel
theorem dL_law_305 : decode cL_law 305 = .ok (.aload_n 2, 1) := by decide +kernel
theorem dL_law_306 : decode cL_law 306 = .ok (.aload_n 0, 1) := by decide +kernel
theorem dL_law_307 : decode cL_law 307 = .ok (.iload 5, 2) := by decide +kernel
theorem dL_law_309 : decode cL_law 309 = .ok (.iconst 1, 1) := by decide +kernel
theorem dL_law_310 : decode cL_law 310 = .ok (.iadd, 1) := by decide +kernel
theorem dL_law_311 : decode cL_law 311 = .ok (.iaload, 1) := by decide +kernel
theorem dL_law_312 : decode cL_law 312 = .ok (.aload_n 0, 1) := by decide +kernel
theorem dL_law_313 : decode cL_law 313 = .ok (.iload 5, 2) := by decide +kernel
theorem dL_law_315 : decode cL_law 315 = .ok (.iconst 2, 1) := by decide +kernel
theorem dL_law_316 : decode cL_law 316 = .ok (.iadd, 1) := by decide +kernel
theorem dL_law_317 : decode cL_law 317 = .ok (.iaload, 1) := by decide +kernel
theorem dL_law_318 : decode cL_law 318 = .ok (.aload_n 0, 1) := by decide +kernel
theorem dL_law_319 : decode cL_law 319 = .ok (.iload 5, 2) := by decide +kernel
theorem dL_law_321 : decode cL_law 321 = .ok (.iconst 3, 1) := by decide +kernel
theorem dL_law_322 : decode cL_law 322 = .ok (.iadd, 1) := by decide +kernel
theorem dL_law_323 : decode cL_law 323 = .ok (.iaload, 1) := by decide +kernel
theorem dL_law_324 : decode cL_law 324 = .ok (.invokevirtual 124, 3) := by decide +kernel
theorem dL_law_327 : decode cL_law 327 = .ok (.istore 7, 2) := by decide +kernel
theorem dL_law_329 : decode cL_law 329 = .ok (.aload_n 2, 1) := by decide +kernel
theorem dL_law_330 : decode cL_law 330 = .ok (.invokevirtual 114, 3) := by decide +kernel
theorem dL_law_333 : decode cL_law 333 = .ok (.iload 6, 2) := by decide +kernel
theorem dL_law_335 : decode cL_law 335 = .ok (.if_icmp .eq 5, 3) := by decide +kernel
theorem dL_law_338 : decode cL_law 338 = .ok (.iconst 0, 1) := by decide +kernel
theorem dL_law_339 : decode cL_law 339 = .ok (.ireturn, 1) := by decide +kernel
theorem dL_law_340 : decode cL_law 340 = .ok (.iload 6, 2) := by decide +kernel
theorem dL_law_342 : decode cL_law 342 = .ok (.ifCond .ne 15, 3) := by decide +kernel
theorem dL_law_345 : decode cL_law 345 = .ok (.aload_n 3, 1) := by decide +kernel
theorem dL_law_346 : decode cL_law 346 = .ok (.iconst 0, 1) := by decide +kernel
theorem dL_law_347 : decode cL_law 347 = .ok (.laload, 1) := by decide +kernel
theorem dL_law_348 : decode cL_law 348 = .ok (.iload 7, 2) := by decide +kernel
theorem dL_law_350 : decode cL_law 350 = .ok (.i2l, 1) := by decide +kernel
theorem dL_law_351 : decode cL_law 351 = .ok (.lcmp, 1) := by decide +kernel
theorem dL_law_352 : decode cL_law 352 = .ok (.ifCond .eq 5, 3) := by decide +kernel
theorem dL_law_355 : decode cL_law 355 = .ok (.iconst 0, 1) := by decide +kernel
theorem dL_law_356 : decode cL_law 356 = .ok (.ireturn, 1) := by decide +kernel
theorem dL_law_357 : decode cL_law 357 = .ok (.goto 1626, 3) := by decide +kernel
theorem dL_law_360 : decode cL_law 360 = .ok (.aload_n 1, 1) := by decide +kernel
theorem dL_law_361 : decode cL_law 361 = .ok (.aload_n 0, 1) := by decide +kernel
theorem dL_law_362 : decode cL_law 362 = .ok (.iload 5, 2) := by decide +kernel
theorem dL_law_364 : decode cL_law 364 = .ok (.iconst 1, 1) := by decide +kernel
theorem dL_law_365 : decode cL_law 365 = .ok (.iadd, 1) := by decide +kernel
theorem dL_law_366 : decode cL_law 366 = .ok (.iaload, 1) := by decide +kernel
theorem dL_law_367 : decode cL_law 367 = .ok (.aload_n 0, 1) := by decide +kernel
theorem dL_law_368 : decode cL_law 368 = .ok (.iload 5, 2) := by decide +kernel
theorem dL_law_370 : decode cL_law 370 = .ok (.iconst 2, 1) := by decide +kernel
theorem dL_law_371 : decode cL_law 371 = .ok (.iadd, 1) := by decide +kernel
theorem dL_law_372 : decode cL_law 372 = .ok (.iaload, 1) := by decide +kernel
theorem dL_law_373 : decode cL_law 373 = .ok (.aload_n 0, 1) := by decide +kernel
theorem dL_law_374 : decode cL_law 374 = .ok (.iload 5, 2) := by decide +kernel
theorem dL_law_376 : decode cL_law 376 = .ok (.iconst 3, 1) := by decide +kernel
theorem dL_law_377 : decode cL_law 377 = .ok (.iadd, 1) := by decide +kernel
theorem dL_law_378 : decode cL_law 378 = .ok (.iaload, 1) := by decide +kernel
theorem dL_law_379 : decode cL_law 379 = .ok (.aload_n 0, 1) := by decide +kernel
theorem dL_law_380 : decode cL_law 380 = .ok (.iload 5, 2) := by decide +kernel
theorem dL_law_382 : decode cL_law 382 = .ok (.iconst 4, 1) := by decide +kernel
theorem dL_law_383 : decode cL_law 383 = .ok (.iadd, 1) := by decide +kernel
theorem dL_law_384 : decode cL_law 384 = .ok (.iaload, 1) := by decide +kernel
theorem dL_law_385 : decode cL_law 385 = .ok (.aload_n 0, 1) := by decide +kernel
theorem dL_law_386 : decode cL_law 386 = .ok (.iload 5, 2) := by decide +kernel
theorem dL_law_388 : decode cL_law 388 = .ok (.iconst 5, 1) := by decide +kernel
theorem dL_law_389 : decode cL_law 389 = .ok (.iadd, 1) := by decide +kernel
theorem dL_law_390 : decode cL_law 390 = .ok (.iaload, 1) := by decide +kernel
theorem dL_law_391 : decode cL_law 391 = .ok (.aload_n 0, 1) := by decide +kernel
theorem dL_law_392 : decode cL_law 392 = .ok (.iload 5, 2) := by decide +kernel
theorem dL_law_394 : decode cL_law 394 = .ok (.bipush 6, 2) := by decide +kernel
theorem dL_law_396 : decode cL_law 396 = .ok (.iadd, 1) := by decide +kernel
theorem dL_law_397 : decode cL_law 397 = .ok (.iaload, 1) := by decide +kernel
theorem dL_law_398 : decode cL_law 398 = .ok (.ifCond .eq 7, 3) := by decide +kernel
theorem dL_law_401 : decode cL_law 401 = .ok (.iconst 1, 1) := by decide +kernel
theorem dL_law_402 : decode cL_law 402 = .ok (.goto 4, 3) := by decide +kernel
theorem dL_law_405 : decode cL_law 405 = .ok (.iconst 0, 1) := by decide +kernel
theorem dL_law_406 : decode cL_law 406 = .ok (.aload_n 3, 1) := by decide +kernel
theorem dL_law_407 : decode cL_law 407 = .ok (.invokestatic 125, 3) := by decide +kernel
theorem dL_law_410 : decode cL_law 410 = .ok (.istore 6, 2) := by decide +kernel
theorem dL_law_412 : decode cL_law 412 = .ok (.aload_n 2, 1) := by decide +kernel
theorem dL_law_413 : decode cL_law 413 = .ok (.aload_n 0, 1) := by decide +kernel
theorem dL_law_414 : decode cL_law 414 = .ok (.iload 5, 2) := by decide +kernel
theorem dL_law_416 : decode cL_law 416 = .ok (.iconst 1, 1) := by decide +kernel
theorem dL_law_417 : decode cL_law 417 = .ok (.iadd, 1) := by decide +kernel
theorem dL_law_418 : decode cL_law 418 = .ok (.iaload, 1) := by decide +kernel
theorem dL_law_419 : decode cL_law 419 = .ok (.aload_n 0, 1) := by decide +kernel
theorem dL_law_420 : decode cL_law 420 = .ok (.iload 5, 2) := by decide +kernel
theorem dL_law_422 : decode cL_law 422 = .ok (.iconst 2, 1) := by decide +kernel
theorem dL_law_423 : decode cL_law 423 = .ok (.iadd, 1) := by decide +kernel
theorem dL_law_424 : decode cL_law 424 = .ok (.iaload, 1) := by decide +kernel
theorem dL_law_425 : decode cL_law 425 = .ok (.aload_n 0, 1) := by decide +kernel
theorem dL_law_426 : decode cL_law 426 = .ok (.iload 5, 2) := by decide +kernel
theorem dL_law_428 : decode cL_law 428 = .ok (.iconst 3, 1) := by decide +kernel
theorem dL_law_429 : decode cL_law 429 = .ok (.iadd, 1) := by decide +kernel
theorem dL_law_430 : decode cL_law 430 = .ok (.iaload, 1) := by decide +kernel
theorem dL_law_431 : decode cL_law 431 = .ok (.aload_n 0, 1) := by decide +kernel
theorem dL_law_432 : decode cL_law 432 = .ok (.iload 5, 2) := by decide +kernel
theorem dL_law_434 : decode cL_law 434 = .ok (.iconst 4, 1) := by decide +kernel
theorem dL_law_435 : decode cL_law 435 = .ok (.iadd, 1) := by decide +kernel
theorem dL_law_436 : decode cL_law 436 = .ok (.iaload, 1) := by decide +kernel
theorem dL_law_437 : decode cL_law 437 = .ok (.aload_n 0, 1) := by decide +kernel
theorem dL_law_438 : decode cL_law 438 = .ok (.iload 5, 2) := by decide +kernel
theorem dL_law_440 : decode cL_law 440 = .ok (.iconst 5, 1) := by decide +kernel
theorem dL_law_441 : decode cL_law 441 = .ok (.iadd, 1) := by decide +kernel
theorem dL_law_442 : decode cL_law 442 = .ok (.iaload, 1) := by decide +kernel
theorem dL_law_443 : decode cL_law 443 = .ok (.aload_n 0, 1) := by decide +kernel
theorem dL_law_444 : decode cL_law 444 = .ok (.iload 5, 2) := by decide +kernel
theorem dL_law_446 : decode cL_law 446 = .ok (.bipush 6, 2) := by decide +kernel
theorem dL_law_448 : decode cL_law 448 = .ok (.iadd, 1) := by decide +kernel
theorem dL_law_449 : decode cL_law 449 = .ok (.iaload, 1) := by decide +kernel
theorem dL_law_450 : decode cL_law 450 = .ok (.ifCond .eq 7, 3) := by decide +kernel
theorem dL_law_453 : decode cL_law 453 = .ok (.iconst 1, 1) := by decide +kernel
theorem dL_law_454 : decode cL_law 454 = .ok (.goto 4, 3) := by decide +kernel
theorem dL_law_457 : decode cL_law 457 = .ok (.iconst 0, 1) := by decide +kernel
theorem dL_law_458 : decode cL_law 458 = .ok (.invokevirtual 128, 3) := by decide +kernel
theorem dL_law_461 : decode cL_law 461 = .ok (.istore 7, 2) := by decide +kernel
theorem dL_law_463 : decode cL_law 463 = .ok (.aload_n 2, 1) := by decide +kernel
theorem dL_law_464 : decode cL_law 464 = .ok (.invokevirtual 114, 3) := by decide +kernel
theorem dL_law_467 : decode cL_law 467 = .ok (.iload 6, 2) := by decide +kernel
theorem dL_law_469 : decode cL_law 469 = .ok (.if_icmp .eq 5, 3) := by decide +kernel
theorem dL_law_472 : decode cL_law 472 = .ok (.iconst 0, 1) := by decide +kernel
theorem dL_law_473 : decode cL_law 473 = .ok (.ireturn, 1) := by decide +kernel
theorem dL_law_474 : decode cL_law 474 = .ok (.iload 6, 2) := by decide +kernel
theorem dL_law_476 : decode cL_law 476 = .ok (.ifCond .ne 15, 3) := by decide +kernel
theorem dL_law_479 : decode cL_law 479 = .ok (.aload_n 3, 1) := by decide +kernel
theorem dL_law_480 : decode cL_law 480 = .ok (.iconst 0, 1) := by decide +kernel
theorem dL_law_481 : decode cL_law 481 = .ok (.laload, 1) := by decide +kernel
theorem dL_law_482 : decode cL_law 482 = .ok (.iload 7, 2) := by decide +kernel
theorem dL_law_484 : decode cL_law 484 = .ok (.i2l, 1) := by decide +kernel
theorem dL_law_485 : decode cL_law 485 = .ok (.lcmp, 1) := by decide +kernel
theorem dL_law_486 : decode cL_law 486 = .ok (.ifCond .eq 5, 3) := by decide +kernel
theorem dL_law_489 : decode cL_law 489 = .ok (.iconst 0, 1) := by decide +kernel
theorem dL_law_490 : decode cL_law 490 = .ok (.ireturn, 1) := by decide +kernel
theorem dL_law_491 : decode cL_law 491 = .ok (.goto 1492, 3) := by decide +kernel
theorem dL_law_494 : decode cL_law 494 = .ok (.aload_n 1, 1) := by decide +kernel
theorem dL_law_495 : decode cL_law 495 = .ok (.aload_n 0, 1) := by decide +kernel
theorem dL_law_496 : decode cL_law 496 = .ok (.iload 5, 2) := by decide +kernel
theorem dL_law_498 : decode cL_law 498 = .ok (.iconst 1, 1) := by decide +kernel
theorem dL_law_499 : decode cL_law 499 = .ok (.iadd, 1) := by decide +kernel
theorem dL_law_500 : decode cL_law 500 = .ok (.iaload, 1) := by decide +kernel
theorem dL_law_501 : decode cL_law 501 = .ok (.aload_n 0, 1) := by decide +kernel
theorem dL_law_502 : decode cL_law 502 = .ok (.iload 5, 2) := by decide +kernel
theorem dL_law_504 : decode cL_law 504 = .ok (.iconst 2, 1) := by decide +kernel
theorem dL_law_505 : decode cL_law 505 = .ok (.iadd, 1) := by decide +kernel
theorem dL_law_506 : decode cL_law 506 = .ok (.iaload, 1) := by decide +kernel
theorem dL_law_507 : decode cL_law 507 = .ok (.aload_n 0, 1) := by decide +kernel
theorem dL_law_508 : decode cL_law 508 = .ok (.iload 5, 2) := by decide +kernel
theorem dL_law_510 : decode cL_law 510 = .ok (.iconst 3, 1) := by decide +kernel
theorem dL_law_511 : decode cL_law 511 = .ok (.iadd, 1) := by decide +kernel
theorem dL_law_512 : decode cL_law 512 = .ok (.iaload, 1) := by decide +kernel
theorem dL_law_513 : decode cL_law 513 = .ok (.aload_n 3, 1) := by decide +kernel
theorem dL_law_514 : decode cL_law 514 = .ok (.invokestatic 129, 3) := by decide +kernel
theorem dL_law_517 : decode cL_law 517 = .ok (.istore 6, 2) := by decide +kernel
theorem dL_law_519 : decode cL_law 519 = .ok (.aload_n 2, 1) := by decide +kernel
theorem dL_law_520 : decode cL_law 520 = .ok (.aload_n 0, 1) := by decide +kernel
theorem dL_law_521 : decode cL_law 521 = .ok (.iload 5, 2) := by decide +kernel
theorem dL_law_523 : decode cL_law 523 = .ok (.iconst 1, 1) := by decide +kernel
theorem dL_law_524 : decode cL_law 524 = .ok (.iadd, 1) := by decide +kernel
theorem dL_law_525 : decode cL_law 525 = .ok (.iaload, 1) := by decide +kernel
theorem dL_law_526 : decode cL_law 526 = .ok (.aload_n 0, 1) := by decide +kernel
theorem dL_law_527 : decode cL_law 527 = .ok (.iload 5, 2) := by decide +kernel
theorem dL_law_529 : decode cL_law 529 = .ok (.iconst 2, 1) := by decide +kernel
theorem dL_law_530 : decode cL_law 530 = .ok (.iadd, 1) := by decide +kernel
theorem dL_law_531 : decode cL_law 531 = .ok (.iaload, 1) := by decide +kernel
theorem dL_law_532 : decode cL_law 532 = .ok (.aload_n 0, 1) := by decide +kernel
theorem dL_law_533 : decode cL_law 533 = .ok (.iload 5, 2) := by decide +kernel
theorem dL_law_535 : decode cL_law 535 = .ok (.iconst 3, 1) := by decide +kernel
theorem dL_law_536 : decode cL_law 536 = .ok (.iadd, 1) := by decide +kernel
theorem dL_law_537 : decode cL_law 537 = .ok (.iaload, 1) := by decide +kernel
theorem dL_law_538 : decode cL_law 538 = .ok (.invokevirtual 131, 3) := by decide +kernel
theorem dL_law_541 : decode cL_law 541 = .ok (.istore 7, 2) := by decide +kernel
theorem dL_law_543 : decode cL_law 543 = .ok (.aload_n 2, 1) := by decide +kernel
theorem dL_law_544 : decode cL_law 544 = .ok (.invokevirtual 114, 3) := by decide +kernel
theorem dL_law_547 : decode cL_law 547 = .ok (.iload 6, 2) := by decide +kernel
theorem dL_law_549 : decode cL_law 549 = .ok (.if_icmp .eq 5, 3) := by decide +kernel
theorem dL_law_552 : decode cL_law 552 = .ok (.iconst 0, 1) := by decide +kernel
theorem dL_law_553 : decode cL_law 553 = .ok (.ireturn, 1) := by decide +kernel
theorem dL_law_554 : decode cL_law 554 = .ok (.iload 6, 2) := by decide +kernel
theorem dL_law_556 : decode cL_law 556 = .ok (.ifCond .ne 15, 3) := by decide +kernel
theorem dL_law_559 : decode cL_law 559 = .ok (.aload_n 3, 1) := by decide +kernel
theorem dL_law_560 : decode cL_law 560 = .ok (.iconst 0, 1) := by decide +kernel
theorem dL_law_561 : decode cL_law 561 = .ok (.laload, 1) := by decide +kernel
theorem dL_law_562 : decode cL_law 562 = .ok (.iload 7, 2) := by decide +kernel
theorem dL_law_564 : decode cL_law 564 = .ok (.i2l, 1) := by decide +kernel
theorem dL_law_565 : decode cL_law 565 = .ok (.lcmp, 1) := by decide +kernel
theorem dL_law_566 : decode cL_law 566 = .ok (.ifCond .eq 5, 3) := by decide +kernel
theorem dL_law_569 : decode cL_law 569 = .ok (.iconst 0, 1) := by decide +kernel
theorem dL_law_570 : decode cL_law 570 = .ok (.ireturn, 1) := by decide +kernel
theorem dL_law_571 : decode cL_law 571 = .ok (.goto 1412, 3) := by decide +kernel
theorem dL_law_574 : decode cL_law 574 = .ok (.aload_n 1, 1) := by decide +kernel
theorem dL_law_575 : decode cL_law 575 = .ok (.aload_n 0, 1) := by decide +kernel
theorem dL_law_576 : decode cL_law 576 = .ok (.iload 5, 2) := by decide +kernel
theorem dL_law_578 : decode cL_law 578 = .ok (.iconst 1, 1) := by decide +kernel
theorem dL_law_579 : decode cL_law 579 = .ok (.iadd, 1) := by decide +kernel
theorem dL_law_580 : decode cL_law 580 = .ok (.iaload, 1) := by decide +kernel
theorem dL_law_581 : decode cL_law 581 = .ok (.aload_n 0, 1) := by decide +kernel
theorem dL_law_582 : decode cL_law 582 = .ok (.iload 5, 2) := by decide +kernel
theorem dL_law_584 : decode cL_law 584 = .ok (.iconst 2, 1) := by decide +kernel
theorem dL_law_585 : decode cL_law 585 = .ok (.iadd, 1) := by decide +kernel
theorem dL_law_586 : decode cL_law 586 = .ok (.iaload, 1) := by decide +kernel
theorem dL_law_587 : decode cL_law 587 = .ok (.aload_n 0, 1) := by decide +kernel
theorem dL_law_588 : decode cL_law 588 = .ok (.iload 5, 2) := by decide +kernel
theorem dL_law_590 : decode cL_law 590 = .ok (.iconst 3, 1) := by decide +kernel
theorem dL_law_591 : decode cL_law 591 = .ok (.iadd, 1) := by decide +kernel
theorem dL_law_592 : decode cL_law 592 = .ok (.iaload, 1) := by decide +kernel
theorem dL_law_593 : decode cL_law 593 = .ok (.aload_n 3, 1) := by decide +kernel
theorem dL_law_594 : decode cL_law 594 = .ok (.invokestatic 132, 3) := by decide +kernel
theorem dL_law_597 : decode cL_law 597 = .ok (.istore 6, 2) := by decide +kernel
theorem dL_law_599 : decode cL_law 599 = .ok (.aload_n 2, 1) := by decide +kernel
theorem dL_law_600 : decode cL_law 600 = .ok (.aload_n 0, 1) := by decide +kernel
theorem dL_law_601 : decode cL_law 601 = .ok (.iload 5, 2) := by decide +kernel
theorem dL_law_603 : decode cL_law 603 = .ok (.iconst 1, 1) := by decide +kernel
theorem dL_law_604 : decode cL_law 604 = .ok (.iadd, 1) := by decide +kernel
theorem dL_law_605 : decode cL_law 605 = .ok (.iaload, 1) := by decide +kernel
theorem dL_law_606 : decode cL_law 606 = .ok (.aload_n 0, 1) := by decide +kernel
theorem dL_law_607 : decode cL_law 607 = .ok (.iload 5, 2) := by decide +kernel
theorem dL_law_609 : decode cL_law 609 = .ok (.iconst 2, 1) := by decide +kernel
theorem dL_law_610 : decode cL_law 610 = .ok (.iadd, 1) := by decide +kernel
theorem dL_law_611 : decode cL_law 611 = .ok (.iaload, 1) := by decide +kernel
theorem dL_law_612 : decode cL_law 612 = .ok (.aload_n 0, 1) := by decide +kernel
theorem dL_law_613 : decode cL_law 613 = .ok (.iload 5, 2) := by decide +kernel
theorem dL_law_615 : decode cL_law 615 = .ok (.iconst 3, 1) := by decide +kernel
theorem dL_law_616 : decode cL_law 616 = .ok (.iadd, 1) := by decide +kernel
theorem dL_law_617 : decode cL_law 617 = .ok (.iaload, 1) := by decide +kernel
theorem dL_law_618 : decode cL_law 618 = .ok (.invokevirtual 134, 3) := by decide +kernel
theorem dL_law_621 : decode cL_law 621 = .ok (.istore 7, 2) := by decide +kernel
theorem dL_law_623 : decode cL_law 623 = .ok (.aload_n 2, 1) := by decide +kernel
theorem dL_law_624 : decode cL_law 624 = .ok (.invokevirtual 114, 3) := by decide +kernel
theorem dL_law_627 : decode cL_law 627 = .ok (.iload 6, 2) := by decide +kernel
theorem dL_law_629 : decode cL_law 629 = .ok (.if_icmp .eq 5, 3) := by decide +kernel
theorem dL_law_632 : decode cL_law 632 = .ok (.iconst 0, 1) := by decide +kernel
theorem dL_law_633 : decode cL_law 633 = .ok (.ireturn, 1) := by decide +kernel
theorem dL_law_634 : decode cL_law 634 = .ok (.iload 6, 2) := by decide +kernel
theorem dL_law_636 : decode cL_law 636 = .ok (.ifCond .ne 15, 3) := by decide +kernel
theorem dL_law_639 : decode cL_law 639 = .ok (.aload_n 3, 1) := by decide +kernel
theorem dL_law_640 : decode cL_law 640 = .ok (.iconst 0, 1) := by decide +kernel
theorem dL_law_641 : decode cL_law 641 = .ok (.laload, 1) := by decide +kernel
theorem dL_law_642 : decode cL_law 642 = .ok (.iload 7, 2) := by decide +kernel
theorem dL_law_644 : decode cL_law 644 = .ok (.i2l, 1) := by decide +kernel
theorem dL_law_645 : decode cL_law 645 = .ok (.lcmp, 1) := by decide +kernel
theorem dL_law_646 : decode cL_law 646 = .ok (.ifCond .eq 5, 3) := by decide +kernel
theorem dL_law_649 : decode cL_law 649 = .ok (.iconst 0, 1) := by decide +kernel
theorem dL_law_650 : decode cL_law 650 = .ok (.ireturn, 1) := by decide +kernel
theorem dL_law_651 : decode cL_law 651 = .ok (.goto 1332, 3) := by decide +kernel
theorem dL_law_654 : decode cL_law 654 = .ok (.aload_n 1, 1) := by decide +kernel
theorem dL_law_655 : decode cL_law 655 = .ok (.aload_n 0, 1) := by decide +kernel
theorem dL_law_656 : decode cL_law 656 = .ok (.iload 5, 2) := by decide +kernel
theorem dL_law_658 : decode cL_law 658 = .ok (.iconst 1, 1) := by decide +kernel
theorem dL_law_659 : decode cL_law 659 = .ok (.iadd, 1) := by decide +kernel
theorem dL_law_660 : decode cL_law 660 = .ok (.iaload, 1) := by decide +kernel
theorem dL_law_661 : decode cL_law 661 = .ok (.aload_n 0, 1) := by decide +kernel
theorem dL_law_662 : decode cL_law 662 = .ok (.iload 5, 2) := by decide +kernel
theorem dL_law_664 : decode cL_law 664 = .ok (.iconst 2, 1) := by decide +kernel
theorem dL_law_665 : decode cL_law 665 = .ok (.iadd, 1) := by decide +kernel
theorem dL_law_666 : decode cL_law 666 = .ok (.iaload, 1) := by decide +kernel
theorem dL_law_667 : decode cL_law 667 = .ok (.aload_n 3, 1) := by decide +kernel
theorem dL_law_668 : decode cL_law 668 = .ok (.invokestatic 135, 3) := by decide +kernel
theorem dL_law_671 : decode cL_law 671 = .ok (.istore 6, 2) := by decide +kernel
theorem dL_law_673 : decode cL_law 673 = .ok (.aload_n 2, 1) := by decide +kernel
theorem dL_law_674 : decode cL_law 674 = .ok (.aload_n 0, 1) := by decide +kernel
theorem dL_law_675 : decode cL_law 675 = .ok (.iload 5, 2) := by decide +kernel
theorem dL_law_677 : decode cL_law 677 = .ok (.iconst 1, 1) := by decide +kernel
theorem dL_law_678 : decode cL_law 678 = .ok (.iadd, 1) := by decide +kernel
theorem dL_law_679 : decode cL_law 679 = .ok (.iaload, 1) := by decide +kernel
theorem dL_law_680 : decode cL_law 680 = .ok (.aload_n 0, 1) := by decide +kernel
theorem dL_law_681 : decode cL_law 681 = .ok (.iload 5, 2) := by decide +kernel
theorem dL_law_683 : decode cL_law 683 = .ok (.iconst 2, 1) := by decide +kernel
theorem dL_law_684 : decode cL_law 684 = .ok (.iadd, 1) := by decide +kernel
theorem dL_law_685 : decode cL_law 685 = .ok (.iaload, 1) := by decide +kernel
theorem dL_law_686 : decode cL_law 686 = .ok (.invokevirtual 138, 3) := by decide +kernel
theorem dL_law_689 : decode cL_law 689 = .ok (.istore 7, 2) := by decide +kernel
theorem dL_law_691 : decode cL_law 691 = .ok (.aload_n 2, 1) := by decide +kernel
theorem dL_law_692 : decode cL_law 692 = .ok (.invokevirtual 114, 3) := by decide +kernel
theorem dL_law_695 : decode cL_law 695 = .ok (.iload 6, 2) := by decide +kernel
theorem dL_law_697 : decode cL_law 697 = .ok (.if_icmp .eq 5, 3) := by decide +kernel
theorem dL_law_700 : decode cL_law 700 = .ok (.iconst 0, 1) := by decide +kernel
theorem dL_law_701 : decode cL_law 701 = .ok (.ireturn, 1) := by decide +kernel
theorem dL_law_702 : decode cL_law 702 = .ok (.iload 6, 2) := by decide +kernel
theorem dL_law_704 : decode cL_law 704 = .ok (.ifCond .ne 15, 3) := by decide +kernel
theorem dL_law_707 : decode cL_law 707 = .ok (.aload_n 3, 1) := by decide +kernel
theorem dL_law_708 : decode cL_law 708 = .ok (.iconst 0, 1) := by decide +kernel
theorem dL_law_709 : decode cL_law 709 = .ok (.laload, 1) := by decide +kernel
theorem dL_law_710 : decode cL_law 710 = .ok (.iload 7, 2) := by decide +kernel
theorem dL_law_712 : decode cL_law 712 = .ok (.i2l, 1) := by decide +kernel
theorem dL_law_713 : decode cL_law 713 = .ok (.lcmp, 1) := by decide +kernel
theorem dL_law_714 : decode cL_law 714 = .ok (.ifCond .eq 5, 3) := by decide +kernel
theorem dL_law_717 : decode cL_law 717 = .ok (.iconst 0, 1) := by decide +kernel
theorem dL_law_718 : decode cL_law 718 = .ok (.ireturn, 1) := by decide +kernel
theorem dL_law_719 : decode cL_law 719 = .ok (.goto 1264, 3) := by decide +kernel
theorem dL_law_722 : decode cL_law 722 = .ok (.aload_n 1, 1) := by decide +kernel
theorem dL_law_723 : decode cL_law 723 = .ok (.aload_n 0, 1) := by decide +kernel
theorem dL_law_724 : decode cL_law 724 = .ok (.iload 5, 2) := by decide +kernel
theorem dL_law_726 : decode cL_law 726 = .ok (.iconst 1, 1) := by decide +kernel
theorem dL_law_727 : decode cL_law 727 = .ok (.iadd, 1) := by decide +kernel
theorem dL_law_728 : decode cL_law 728 = .ok (.iaload, 1) := by decide +kernel
theorem dL_law_729 : decode cL_law 729 = .ok (.aload_n 0, 1) := by decide +kernel
theorem dL_law_730 : decode cL_law 730 = .ok (.iload 5, 2) := by decide +kernel
theorem dL_law_732 : decode cL_law 732 = .ok (.iconst 2, 1) := by decide +kernel
theorem dL_law_733 : decode cL_law 733 = .ok (.iadd, 1) := by decide +kernel
theorem dL_law_734 : decode cL_law 734 = .ok (.iaload, 1) := by decide +kernel
theorem dL_law_735 : decode cL_law 735 = .ok (.aload_n 0, 1) := by decide +kernel
theorem dL_law_736 : decode cL_law 736 = .ok (.iload 5, 2) := by decide +kernel
theorem dL_law_738 : decode cL_law 738 = .ok (.iconst 3, 1) := by decide +kernel
theorem dL_law_739 : decode cL_law 739 = .ok (.iadd, 1) := by decide +kernel
theorem dL_law_740 : decode cL_law 740 = .ok (.iaload, 1) := by decide +kernel
theorem dL_law_741 : decode cL_law 741 = .ok (.aload_n 0, 1) := by decide +kernel
theorem dL_law_742 : decode cL_law 742 = .ok (.iload 5, 2) := by decide +kernel
theorem dL_law_744 : decode cL_law 744 = .ok (.iconst 4, 1) := by decide +kernel
theorem dL_law_745 : decode cL_law 745 = .ok (.iadd, 1) := by decide +kernel
theorem dL_law_746 : decode cL_law 746 = .ok (.iaload, 1) := by decide +kernel
theorem dL_law_747 : decode cL_law 747 = .ok (.aload_n 3, 1) := by decide +kernel
theorem dL_law_748 : decode cL_law 748 = .ok (.invokestatic 139, 3) := by decide +kernel
theorem dL_law_751 : decode cL_law 751 = .ok (.istore 6, 2) := by decide +kernel
theorem dL_law_753 : decode cL_law 753 = .ok (.aload_n 2, 1) := by decide +kernel
theorem dL_law_754 : decode cL_law 754 = .ok (.aload_n 0, 1) := by decide +kernel
theorem dL_law_755 : decode cL_law 755 = .ok (.iload 5, 2) := by decide +kernel
theorem dL_law_757 : decode cL_law 757 = .ok (.iconst 1, 1) := by decide +kernel
theorem dL_law_758 : decode cL_law 758 = .ok (.iadd, 1) := by decide +kernel
theorem dL_law_759 : decode cL_law 759 = .ok (.iaload, 1) := by decide +kernel
theorem dL_law_760 : decode cL_law 760 = .ok (.aload_n 0, 1) := by decide +kernel
theorem dL_law_761 : decode cL_law 761 = .ok (.iload 5, 2) := by decide +kernel
theorem dL_law_763 : decode cL_law 763 = .ok (.iconst 2, 1) := by decide +kernel
theorem dL_law_764 : decode cL_law 764 = .ok (.iadd, 1) := by decide +kernel
theorem dL_law_765 : decode cL_law 765 = .ok (.iaload, 1) := by decide +kernel
theorem dL_law_766 : decode cL_law 766 = .ok (.aload_n 0, 1) := by decide +kernel
theorem dL_law_767 : decode cL_law 767 = .ok (.iload 5, 2) := by decide +kernel
theorem dL_law_769 : decode cL_law 769 = .ok (.iconst 3, 1) := by decide +kernel
theorem dL_law_770 : decode cL_law 770 = .ok (.iadd, 1) := by decide +kernel
theorem dL_law_771 : decode cL_law 771 = .ok (.iaload, 1) := by decide +kernel
theorem dL_law_772 : decode cL_law 772 = .ok (.aload_n 0, 1) := by decide +kernel
theorem dL_law_773 : decode cL_law 773 = .ok (.iload 5, 2) := by decide +kernel
theorem dL_law_775 : decode cL_law 775 = .ok (.iconst 4, 1) := by decide +kernel
theorem dL_law_776 : decode cL_law 776 = .ok (.iadd, 1) := by decide +kernel
theorem dL_law_777 : decode cL_law 777 = .ok (.iaload, 1) := by decide +kernel
theorem dL_law_778 : decode cL_law 778 = .ok (.invokevirtual 142, 3) := by decide +kernel
theorem dL_law_781 : decode cL_law 781 = .ok (.istore 7, 2) := by decide +kernel
theorem dL_law_783 : decode cL_law 783 = .ok (.aload_n 2, 1) := by decide +kernel
theorem dL_law_784 : decode cL_law 784 = .ok (.invokevirtual 114, 3) := by decide +kernel
theorem dL_law_787 : decode cL_law 787 = .ok (.iload 6, 2) := by decide +kernel
theorem dL_law_789 : decode cL_law 789 = .ok (.if_icmp .eq 5, 3) := by decide +kernel
theorem dL_law_792 : decode cL_law 792 = .ok (.iconst 0, 1) := by decide +kernel
theorem dL_law_793 : decode cL_law 793 = .ok (.ireturn, 1) := by decide +kernel
theorem dL_law_794 : decode cL_law 794 = .ok (.iload 6, 2) := by decide +kernel
theorem dL_law_796 : decode cL_law 796 = .ok (.ifCond .ne 15, 3) := by decide +kernel
theorem dL_law_799 : decode cL_law 799 = .ok (.aload_n 3, 1) := by decide +kernel
theorem dL_law_800 : decode cL_law 800 = .ok (.iconst 0, 1) := by decide +kernel
theorem dL_law_801 : decode cL_law 801 = .ok (.laload, 1) := by decide +kernel
theorem dL_law_802 : decode cL_law 802 = .ok (.iload 7, 2) := by decide +kernel
theorem dL_law_804 : decode cL_law 804 = .ok (.i2l, 1) := by decide +kernel
theorem dL_law_805 : decode cL_law 805 = .ok (.lcmp, 1) := by decide +kernel
theorem dL_law_806 : decode cL_law 806 = .ok (.ifCond .eq 5, 3) := by decide +kernel
theorem dL_law_809 : decode cL_law 809 = .ok (.iconst 0, 1) := by decide +kernel
theorem dL_law_810 : decode cL_law 810 = .ok (.ireturn, 1) := by decide +kernel
theorem dL_law_811 : decode cL_law 811 = .ok (.goto 1172, 3) := by decide +kernel
theorem dL_law_814 : decode cL_law 814 = .ok (.aload_n 1, 1) := by decide +kernel
theorem dL_law_815 : decode cL_law 815 = .ok (.aload_n 0, 1) := by decide +kernel
theorem dL_law_816 : decode cL_law 816 = .ok (.iload 5, 2) := by decide +kernel
theorem dL_law_818 : decode cL_law 818 = .ok (.iconst 1, 1) := by decide +kernel
theorem dL_law_819 : decode cL_law 819 = .ok (.iadd, 1) := by decide +kernel
theorem dL_law_820 : decode cL_law 820 = .ok (.iaload, 1) := by decide +kernel
theorem dL_law_821 : decode cL_law 821 = .ok (.aload_n 0, 1) := by decide +kernel
theorem dL_law_822 : decode cL_law 822 = .ok (.iload 5, 2) := by decide +kernel
theorem dL_law_824 : decode cL_law 824 = .ok (.iconst 2, 1) := by decide +kernel
theorem dL_law_825 : decode cL_law 825 = .ok (.iadd, 1) := by decide +kernel
theorem dL_law_826 : decode cL_law 826 = .ok (.iaload, 1) := by decide +kernel
theorem dL_law_827 : decode cL_law 827 = .ok (.aload_n 0, 1) := by decide +kernel
theorem dL_law_828 : decode cL_law 828 = .ok (.iload 5, 2) := by decide +kernel
theorem dL_law_830 : decode cL_law 830 = .ok (.iconst 3, 1) := by decide +kernel
theorem dL_law_831 : decode cL_law 831 = .ok (.iadd, 1) := by decide +kernel
theorem dL_law_832 : decode cL_law 832 = .ok (.iaload, 1) := by decide +kernel
theorem dL_law_833 : decode cL_law 833 = .ok (.aload_n 3, 1) := by decide +kernel
theorem dL_law_834 : decode cL_law 834 = .ok (.invokestatic 143, 3) := by decide +kernel
theorem dL_law_837 : decode cL_law 837 = .ok (.istore 6, 2) := by decide +kernel
theorem dL_law_839 : decode cL_law 839 = .ok (.aload_n 2, 1) := by decide +kernel
theorem dL_law_840 : decode cL_law 840 = .ok (.aload_n 0, 1) := by decide +kernel
theorem dL_law_841 : decode cL_law 841 = .ok (.iload 5, 2) := by decide +kernel
theorem dL_law_843 : decode cL_law 843 = .ok (.iconst 1, 1) := by decide +kernel
theorem dL_law_844 : decode cL_law 844 = .ok (.iadd, 1) := by decide +kernel
theorem dL_law_845 : decode cL_law 845 = .ok (.iaload, 1) := by decide +kernel
theorem dL_law_846 : decode cL_law 846 = .ok (.aload_n 0, 1) := by decide +kernel
theorem dL_law_847 : decode cL_law 847 = .ok (.iload 5, 2) := by decide +kernel
theorem dL_law_849 : decode cL_law 849 = .ok (.iconst 2, 1) := by decide +kernel
theorem dL_law_850 : decode cL_law 850 = .ok (.iadd, 1) := by decide +kernel
theorem dL_law_851 : decode cL_law 851 = .ok (.iaload, 1) := by decide +kernel
theorem dL_law_852 : decode cL_law 852 = .ok (.aload_n 0, 1) := by decide +kernel
theorem dL_law_853 : decode cL_law 853 = .ok (.iload 5, 2) := by decide +kernel
theorem dL_law_855 : decode cL_law 855 = .ok (.iconst 3, 1) := by decide +kernel
theorem dL_law_856 : decode cL_law 856 = .ok (.iadd, 1) := by decide +kernel
theorem dL_law_857 : decode cL_law 857 = .ok (.iaload, 1) := by decide +kernel
theorem dL_law_858 : decode cL_law 858 = .ok (.invokevirtual 145, 3) := by decide +kernel
theorem dL_law_861 : decode cL_law 861 = .ok (.istore 7, 2) := by decide +kernel
theorem dL_law_863 : decode cL_law 863 = .ok (.aload_n 2, 1) := by decide +kernel
theorem dL_law_864 : decode cL_law 864 = .ok (.invokevirtual 114, 3) := by decide +kernel
theorem dL_law_867 : decode cL_law 867 = .ok (.iload 6, 2) := by decide +kernel
theorem dL_law_869 : decode cL_law 869 = .ok (.if_icmp .eq 5, 3) := by decide +kernel
theorem dL_law_872 : decode cL_law 872 = .ok (.iconst 0, 1) := by decide +kernel
theorem dL_law_873 : decode cL_law 873 = .ok (.ireturn, 1) := by decide +kernel
theorem dL_law_874 : decode cL_law 874 = .ok (.iload 6, 2) := by decide +kernel
theorem dL_law_876 : decode cL_law 876 = .ok (.ifCond .ne 15, 3) := by decide +kernel
theorem dL_law_879 : decode cL_law 879 = .ok (.aload_n 3, 1) := by decide +kernel
theorem dL_law_880 : decode cL_law 880 = .ok (.iconst 0, 1) := by decide +kernel
theorem dL_law_881 : decode cL_law 881 = .ok (.laload, 1) := by decide +kernel
theorem dL_law_882 : decode cL_law 882 = .ok (.iload 7, 2) := by decide +kernel
theorem dL_law_884 : decode cL_law 884 = .ok (.i2l, 1) := by decide +kernel
theorem dL_law_885 : decode cL_law 885 = .ok (.lcmp, 1) := by decide +kernel
theorem dL_law_886 : decode cL_law 886 = .ok (.ifCond .eq 5, 3) := by decide +kernel
theorem dL_law_889 : decode cL_law 889 = .ok (.iconst 0, 1) := by decide +kernel
theorem dL_law_890 : decode cL_law 890 = .ok (.ireturn, 1) := by decide +kernel
theorem dL_law_891 : decode cL_law 891 = .ok (.goto 1092, 3) := by decide +kernel
theorem dL_law_894 : decode cL_law 894 = .ok (.aload_n 1, 1) := by decide +kernel
theorem dL_law_895 : decode cL_law 895 = .ok (.aload_n 0, 1) := by decide +kernel
theorem dL_law_896 : decode cL_law 896 = .ok (.iload 5, 2) := by decide +kernel
theorem dL_law_898 : decode cL_law 898 = .ok (.iconst 1, 1) := by decide +kernel
theorem dL_law_899 : decode cL_law 899 = .ok (.iadd, 1) := by decide +kernel
theorem dL_law_900 : decode cL_law 900 = .ok (.iaload, 1) := by decide +kernel
theorem dL_law_901 : decode cL_law 901 = .ok (.aload_n 3, 1) := by decide +kernel
theorem dL_law_902 : decode cL_law 902 = .ok (.invokestatic 146, 3) := by decide +kernel
theorem dL_law_905 : decode cL_law 905 = .ok (.istore 6, 2) := by decide +kernel
theorem dL_law_907 : decode cL_law 907 = .ok (.aload_n 2, 1) := by decide +kernel
theorem dL_law_908 : decode cL_law 908 = .ok (.aload_n 0, 1) := by decide +kernel
theorem dL_law_909 : decode cL_law 909 = .ok (.iload 5, 2) := by decide +kernel
theorem dL_law_911 : decode cL_law 911 = .ok (.iconst 1, 1) := by decide +kernel
theorem dL_law_912 : decode cL_law 912 = .ok (.iadd, 1) := by decide +kernel
theorem dL_law_913 : decode cL_law 913 = .ok (.iaload, 1) := by decide +kernel
theorem dL_law_914 : decode cL_law 914 = .ok (.invokevirtual 148, 3) := by decide +kernel
theorem dL_law_917 : decode cL_law 917 = .ok (.istore 7, 2) := by decide +kernel
theorem dL_law_919 : decode cL_law 919 = .ok (.aload_n 2, 1) := by decide +kernel
theorem dL_law_920 : decode cL_law 920 = .ok (.invokevirtual 114, 3) := by decide +kernel
theorem dL_law_923 : decode cL_law 923 = .ok (.iload 6, 2) := by decide +kernel
theorem dL_law_925 : decode cL_law 925 = .ok (.if_icmp .eq 5, 3) := by decide +kernel
theorem dL_law_928 : decode cL_law 928 = .ok (.iconst 0, 1) := by decide +kernel
theorem dL_law_929 : decode cL_law 929 = .ok (.ireturn, 1) := by decide +kernel
theorem dL_law_930 : decode cL_law 930 = .ok (.iload 6, 2) := by decide +kernel
theorem dL_law_932 : decode cL_law 932 = .ok (.ifCond .ne 15, 3) := by decide +kernel
theorem dL_law_935 : decode cL_law 935 = .ok (.aload_n 3, 1) := by decide +kernel
theorem dL_law_936 : decode cL_law 936 = .ok (.iconst 0, 1) := by decide +kernel
theorem dL_law_937 : decode cL_law 937 = .ok (.laload, 1) := by decide +kernel
theorem dL_law_938 : decode cL_law 938 = .ok (.iload 7, 2) := by decide +kernel
theorem dL_law_940 : decode cL_law 940 = .ok (.i2l, 1) := by decide +kernel
theorem dL_law_941 : decode cL_law 941 = .ok (.lcmp, 1) := by decide +kernel
theorem dL_law_942 : decode cL_law 942 = .ok (.ifCond .eq 5, 3) := by decide +kernel
theorem dL_law_945 : decode cL_law 945 = .ok (.iconst 0, 1) := by decide +kernel
theorem dL_law_946 : decode cL_law 946 = .ok (.ireturn, 1) := by decide +kernel
theorem dL_law_947 : decode cL_law 947 = .ok (.goto 1036, 3) := by decide +kernel
theorem dL_law_950 : decode cL_law 950 = .ok (.aload_n 1, 1) := by decide +kernel
theorem dL_law_951 : decode cL_law 951 = .ok (.aload_n 0, 1) := by decide +kernel
theorem dL_law_952 : decode cL_law 952 = .ok (.iload 5, 2) := by decide +kernel
theorem dL_law_954 : decode cL_law 954 = .ok (.iconst 1, 1) := by decide +kernel
theorem dL_law_955 : decode cL_law 955 = .ok (.iadd, 1) := by decide +kernel
theorem dL_law_956 : decode cL_law 956 = .ok (.iaload, 1) := by decide +kernel
theorem dL_law_957 : decode cL_law 957 = .ok (.aload_n 3, 1) := by decide +kernel
theorem dL_law_958 : decode cL_law 958 = .ok (.invokestatic 149, 3) := by decide +kernel
theorem dL_law_961 : decode cL_law 961 = .ok (.istore 6, 2) := by decide +kernel
theorem dL_law_963 : decode cL_law 963 = .ok (.aload_n 2, 1) := by decide +kernel
theorem dL_law_964 : decode cL_law 964 = .ok (.aload_n 0, 1) := by decide +kernel
theorem dL_law_965 : decode cL_law 965 = .ok (.iload 5, 2) := by decide +kernel
theorem dL_law_967 : decode cL_law 967 = .ok (.iconst 1, 1) := by decide +kernel
theorem dL_law_968 : decode cL_law 968 = .ok (.iadd, 1) := by decide +kernel
theorem dL_law_969 : decode cL_law 969 = .ok (.iaload, 1) := by decide +kernel
theorem dL_law_970 : decode cL_law 970 = .ok (.invokevirtual 151, 3) := by decide +kernel
theorem dL_law_973 : decode cL_law 973 = .ok (.istore 7, 2) := by decide +kernel
theorem dL_law_975 : decode cL_law 975 = .ok (.aload_n 2, 1) := by decide +kernel
theorem dL_law_976 : decode cL_law 976 = .ok (.invokevirtual 114, 3) := by decide +kernel
theorem dL_law_979 : decode cL_law 979 = .ok (.iload 6, 2) := by decide +kernel
theorem dL_law_981 : decode cL_law 981 = .ok (.if_icmp .eq 5, 3) := by decide +kernel
theorem dL_law_984 : decode cL_law 984 = .ok (.iconst 0, 1) := by decide +kernel
theorem dL_law_985 : decode cL_law 985 = .ok (.ireturn, 1) := by decide +kernel
theorem dL_law_986 : decode cL_law 986 = .ok (.iload 6, 2) := by decide +kernel
theorem dL_law_988 : decode cL_law 988 = .ok (.ifCond .ne 15, 3) := by decide +kernel
theorem dL_law_991 : decode cL_law 991 = .ok (.aload_n 3, 1) := by decide +kernel
theorem dL_law_992 : decode cL_law 992 = .ok (.iconst 0, 1) := by decide +kernel
theorem dL_law_993 : decode cL_law 993 = .ok (.laload, 1) := by decide +kernel
theorem dL_law_994 : decode cL_law 994 = .ok (.iload 7, 2) := by decide +kernel
theorem dL_law_996 : decode cL_law 996 = .ok (.i2l, 1) := by decide +kernel
theorem dL_law_997 : decode cL_law 997 = .ok (.lcmp, 1) := by decide +kernel
theorem dL_law_998 : decode cL_law 998 = .ok (.ifCond .eq 5, 3) := by decide +kernel
theorem dL_law_1001 : decode cL_law 1001 = .ok (.iconst 0, 1) := by decide +kernel
theorem dL_law_1002 : decode cL_law 1002 = .ok (.ireturn, 1) := by decide +kernel
theorem dL_law_1003 : decode cL_law 1003 = .ok (.goto 980, 3) := by decide +kernel
theorem dL_law_1006 : decode cL_law 1006 = .ok (.aload_n 1, 1) := by decide +kernel
theorem dL_law_1007 : decode cL_law 1007 = .ok (.aload_n 0, 1) := by decide +kernel
theorem dL_law_1008 : decode cL_law 1008 = .ok (.iload 5, 2) := by decide +kernel
theorem dL_law_1010 : decode cL_law 1010 = .ok (.iconst 1, 1) := by decide +kernel
theorem dL_law_1011 : decode cL_law 1011 = .ok (.iadd, 1) := by decide +kernel
theorem dL_law_1012 : decode cL_law 1012 = .ok (.iaload, 1) := by decide +kernel
theorem dL_law_1013 : decode cL_law 1013 = .ok (.aload_n 3, 1) := by decide +kernel
theorem dL_law_1014 : decode cL_law 1014 = .ok (.invokestatic 152, 3) := by decide +kernel
theorem dL_law_1017 : decode cL_law 1017 = .ok (.istore 6, 2) := by decide +kernel
theorem dL_law_1019 : decode cL_law 1019 = .ok (.aload_n 2, 1) := by decide +kernel
theorem dL_law_1020 : decode cL_law 1020 = .ok (.aload_n 0, 1) := by decide +kernel
theorem dL_law_1021 : decode cL_law 1021 = .ok (.iload 5, 2) := by decide +kernel
theorem dL_law_1023 : decode cL_law 1023 = .ok (.iconst 1, 1) := by decide +kernel
theorem dL_law_1024 : decode cL_law 1024 = .ok (.iadd, 1) := by decide +kernel
theorem dL_law_1025 : decode cL_law 1025 = .ok (.iaload, 1) := by decide +kernel
theorem dL_law_1026 : decode cL_law 1026 = .ok (.invokevirtual 154, 3) := by decide +kernel
theorem dL_law_1029 : decode cL_law 1029 = .ok (.istore 7, 2) := by decide +kernel
theorem dL_law_1031 : decode cL_law 1031 = .ok (.aload_n 2, 1) := by decide +kernel
theorem dL_law_1032 : decode cL_law 1032 = .ok (.invokevirtual 114, 3) := by decide +kernel
theorem dL_law_1035 : decode cL_law 1035 = .ok (.iload 6, 2) := by decide +kernel
theorem dL_law_1037 : decode cL_law 1037 = .ok (.if_icmp .eq 5, 3) := by decide +kernel
theorem dL_law_1040 : decode cL_law 1040 = .ok (.iconst 0, 1) := by decide +kernel
theorem dL_law_1041 : decode cL_law 1041 = .ok (.ireturn, 1) := by decide +kernel
theorem dL_law_1042 : decode cL_law 1042 = .ok (.iload 6, 2) := by decide +kernel
theorem dL_law_1044 : decode cL_law 1044 = .ok (.ifCond .ne 15, 3) := by decide +kernel
theorem dL_law_1047 : decode cL_law 1047 = .ok (.aload_n 3, 1) := by decide +kernel
theorem dL_law_1048 : decode cL_law 1048 = .ok (.iconst 0, 1) := by decide +kernel
theorem dL_law_1049 : decode cL_law 1049 = .ok (.laload, 1) := by decide +kernel
theorem dL_law_1050 : decode cL_law 1050 = .ok (.iload 7, 2) := by decide +kernel
theorem dL_law_1052 : decode cL_law 1052 = .ok (.i2l, 1) := by decide +kernel
theorem dL_law_1053 : decode cL_law 1053 = .ok (.lcmp, 1) := by decide +kernel
theorem dL_law_1054 : decode cL_law 1054 = .ok (.ifCond .eq 5, 3) := by decide +kernel
theorem dL_law_1057 : decode cL_law 1057 = .ok (.iconst 0, 1) := by decide +kernel
theorem dL_law_1058 : decode cL_law 1058 = .ok (.ireturn, 1) := by decide +kernel
theorem dL_law_1059 : decode cL_law 1059 = .ok (.goto 924, 3) := by decide +kernel
theorem dL_law_1062 : decode cL_law 1062 = .ok (.aload_n 1, 1) := by decide +kernel
theorem dL_law_1063 : decode cL_law 1063 = .ok (.aload_n 0, 1) := by decide +kernel
theorem dL_law_1064 : decode cL_law 1064 = .ok (.iload 5, 2) := by decide +kernel
theorem dL_law_1066 : decode cL_law 1066 = .ok (.iconst 1, 1) := by decide +kernel
theorem dL_law_1067 : decode cL_law 1067 = .ok (.iadd, 1) := by decide +kernel
theorem dL_law_1068 : decode cL_law 1068 = .ok (.iaload, 1) := by decide +kernel
theorem dL_law_1069 : decode cL_law 1069 = .ok (.aload_n 3, 1) := by decide +kernel
theorem dL_law_1070 : decode cL_law 1070 = .ok (.invokestatic 155, 3) := by decide +kernel
theorem dL_law_1073 : decode cL_law 1073 = .ok (.istore 6, 2) := by decide +kernel
theorem dL_law_1075 : decode cL_law 1075 = .ok (.aload_n 2, 1) := by decide +kernel
theorem dL_law_1076 : decode cL_law 1076 = .ok (.aload_n 0, 1) := by decide +kernel
theorem dL_law_1077 : decode cL_law 1077 = .ok (.iload 5, 2) := by decide +kernel
theorem dL_law_1079 : decode cL_law 1079 = .ok (.iconst 1, 1) := by decide +kernel
theorem dL_law_1080 : decode cL_law 1080 = .ok (.iadd, 1) := by decide +kernel
theorem dL_law_1081 : decode cL_law 1081 = .ok (.iaload, 1) := by decide +kernel
theorem dL_law_1082 : decode cL_law 1082 = .ok (.invokevirtual 157, 3) := by decide +kernel
theorem dL_law_1085 : decode cL_law 1085 = .ok (.istore 7, 2) := by decide +kernel
theorem dL_law_1087 : decode cL_law 1087 = .ok (.aload_n 2, 1) := by decide +kernel
theorem dL_law_1088 : decode cL_law 1088 = .ok (.invokevirtual 114, 3) := by decide +kernel
theorem dL_law_1091 : decode cL_law 1091 = .ok (.iload 6, 2) := by decide +kernel
theorem dL_law_1093 : decode cL_law 1093 = .ok (.if_icmp .eq 5, 3) := by decide +kernel
theorem dL_law_1096 : decode cL_law 1096 = .ok (.iconst 0, 1) := by decide +kernel
theorem dL_law_1097 : decode cL_law 1097 = .ok (.ireturn, 1) := by decide +kernel
theorem dL_law_1098 : decode cL_law 1098 = .ok (.iload 6, 2) := by decide +kernel
theorem dL_law_1100 : decode cL_law 1100 = .ok (.ifCond .ne 15, 3) := by decide +kernel
theorem dL_law_1103 : decode cL_law 1103 = .ok (.aload_n 3, 1) := by decide +kernel
theorem dL_law_1104 : decode cL_law 1104 = .ok (.iconst 0, 1) := by decide +kernel
theorem dL_law_1105 : decode cL_law 1105 = .ok (.laload, 1) := by decide +kernel
theorem dL_law_1106 : decode cL_law 1106 = .ok (.iload 7, 2) := by decide +kernel
theorem dL_law_1108 : decode cL_law 1108 = .ok (.i2l, 1) := by decide +kernel
theorem dL_law_1109 : decode cL_law 1109 = .ok (.lcmp, 1) := by decide +kernel
theorem dL_law_1110 : decode cL_law 1110 = .ok (.ifCond .eq 5, 3) := by decide +kernel
theorem dL_law_1113 : decode cL_law 1113 = .ok (.iconst 0, 1) := by decide +kernel
theorem dL_law_1114 : decode cL_law 1114 = .ok (.ireturn, 1) := by decide +kernel
theorem dL_law_1115 : decode cL_law 1115 = .ok (.goto 868, 3) := by decide +kernel
theorem dL_law_1118 : decode cL_law 1118 = .ok (.aload_n 1, 1) := by decide +kernel
theorem dL_law_1119 : decode cL_law 1119 = .ok (.aload_n 0, 1) := by decide +kernel
theorem dL_law_1120 : decode cL_law 1120 = .ok (.iload 5, 2) := by decide +kernel
theorem dL_law_1122 : decode cL_law 1122 = .ok (.iconst 1, 1) := by decide +kernel
theorem dL_law_1123 : decode cL_law 1123 = .ok (.iadd, 1) := by decide +kernel
theorem dL_law_1124 : decode cL_law 1124 = .ok (.iaload, 1) := by decide +kernel
theorem dL_law_1125 : decode cL_law 1125 = .ok (.aload 4, 2) := by decide +kernel
theorem dL_law_1127 : decode cL_law 1127 = .ok (.invokestatic 158, 3) := by decide +kernel
theorem dL_law_1130 : decode cL_law 1130 = .ok (.istore 6, 2) := by decide +kernel
theorem dL_law_1132 : decode cL_law 1132 = .ok (.aload_n 2, 1) := by decide +kernel
theorem dL_law_1133 : decode cL_law 1133 = .ok (.aload_n 0, 1) := by decide +kernel
theorem dL_law_1134 : decode cL_law 1134 = .ok (.iload 5, 2) := by decide +kernel
theorem dL_law_1136 : decode cL_law 1136 = .ok (.iconst 1, 1) := by decide +kernel
theorem dL_law_1137 : decode cL_law 1137 = .ok (.iadd, 1) := by decide +kernel
theorem dL_law_1138 : decode cL_law 1138 = .ok (.iaload, 1) := by decide +kernel
theorem dL_law_1139 : decode cL_law 1139 = .ok (.invokevirtual 161, 3) := by decide +kernel
theorem dL_law_1142 : decode cL_law 1142 = .ok (.fstore 7, 2) := by decide +kernel
theorem dL_law_1144 : decode cL_law 1144 = .ok (.aload_n 2, 1) := by decide +kernel
theorem dL_law_1145 : decode cL_law 1145 = .ok (.invokevirtual 114, 3) := by decide +kernel
theorem dL_law_1148 : decode cL_law 1148 = .ok (.iload 6, 2) := by decide +kernel
theorem dL_law_1150 : decode cL_law 1150 = .ok (.if_icmp .eq 5, 3) := by decide +kernel
theorem dL_law_1153 : decode cL_law 1153 = .ok (.iconst 0, 1) := by decide +kernel
theorem dL_law_1154 : decode cL_law 1154 = .ok (.ireturn, 1) := by decide +kernel
theorem dL_law_1155 : decode cL_law 1155 = .ok (.iload 6, 2) := by decide +kernel
theorem dL_law_1157 : decode cL_law 1157 = .ok (.ifCond .ne 36, 3) := by decide +kernel
theorem dL_law_1160 : decode cL_law 1160 = .ok (.aload 4, 2) := by decide +kernel
theorem dL_law_1162 : decode cL_law 1162 = .ok (.iconst 0, 1) := by decide +kernel
theorem dL_law_1163 : decode cL_law 1163 = .ok (.daload, 1) := by decide +kernel
theorem dL_law_1164 : decode cL_law 1164 = .ok (.fload 7, 2) := by decide +kernel
theorem dL_law_1166 : decode cL_law 1166 = .ok (.f2d, 1) := by decide +kernel
theorem dL_law_1167 : decode cL_law 1167 = .ok (.dcmp .l, 1) := by decide +kernel
theorem dL_law_1168 : decode cL_law 1168 = .ok (.ifCond .eq 25, 3) := by decide +kernel
theorem dL_law_1171 : decode cL_law 1171 = .ok (.aload 4, 2) := by decide +kernel
theorem dL_law_1173 : decode cL_law 1173 = .ok (.iconst 0, 1) := by decide +kernel
theorem dL_law_1174 : decode cL_law 1174 = .ok (.daload, 1) := by decide +kernel
theorem dL_law_1175 : decode cL_law 1175 = .ok (.aload 4, 2) := by decide +kernel
theorem dL_law_1177 : decode cL_law 1177 = .ok (.iconst 0, 1) := by decide +kernel
theorem dL_law_1178 : decode cL_law 1178 = .ok (.daload, 1) := by decide +kernel
theorem dL_law_1179 : decode cL_law 1179 = .ok (.dcmp .l, 1) := by decide +kernel
theorem dL_law_1180 : decode cL_law 1180 = .ok (.ifCond .eq 11, 3) := by decide +kernel
theorem dL_law_1183 : decode cL_law 1183 = .ok (.fload 7, 2) := by decide +kernel
theorem dL_law_1185 : decode cL_law 1185 = .ok (.fload 7, 2) := by decide +kernel
theorem dL_law_1187 : decode cL_law 1187 = .ok (.fcmp .l, 1) := by decide +kernel
theorem dL_law_1188 : decode cL_law 1188 = .ok (.ifCond .ne 5, 3) := by decide +kernel
theorem dL_law_1191 : decode cL_law 1191 = .ok (.iconst 0, 1) := by decide +kernel
theorem dL_law_1192 : decode cL_law 1192 = .ok (.ireturn, 1) := by decide +kernel
theorem dL_law_1193 : decode cL_law 1193 = .ok (.goto 790, 3) := by decide +kernel
theorem dL_law_1196 : decode cL_law 1196 = .ok (.aload_n 1, 1) := by decide +kernel
theorem dL_law_1197 : decode cL_law 1197 = .ok (.aload_n 0, 1) := by decide +kernel
theorem dL_law_1198 : decode cL_law 1198 = .ok (.iload 5, 2) := by decide +kernel
theorem dL_law_1200 : decode cL_law 1200 = .ok (.iconst 1, 1) := by decide +kernel
theorem dL_law_1201 : decode cL_law 1201 = .ok (.iadd, 1) := by decide +kernel
theorem dL_law_1202 : decode cL_law 1202 = .ok (.iaload, 1) := by decide +kernel
theorem dL_law_1203 : decode cL_law 1203 = .ok (.aload_n 3, 1) := by decide +kernel
theorem dL_law_1204 : decode cL_law 1204 = .ok (.invokestatic 162, 3) := by decide +kernel
theorem dL_law_1207 : decode cL_law 1207 = .ok (.istore 6, 2) := by decide +kernel
theorem dL_law_1209 : decode cL_law 1209 = .ok (.aload_n 2, 1) := by decide +kernel
theorem dL_law_1210 : decode cL_law 1210 = .ok (.aload_n 0, 1) := by decide +kernel
theorem dL_law_1211 : decode cL_law 1211 = .ok (.iload 5, 2) := by decide +kernel
theorem dL_law_1213 : decode cL_law 1213 = .ok (.iconst 1, 1) := by decide +kernel
theorem dL_law_1214 : decode cL_law 1214 = .ok (.iadd, 1) := by decide +kernel
theorem dL_law_1215 : decode cL_law 1215 = .ok (.iaload, 1) := by decide +kernel
theorem dL_law_1216 : decode cL_law 1216 = .ok (.invokevirtual 164, 3) := by decide +kernel
theorem dL_law_1219 : decode cL_law 1219 = .ok (.istore 7, 2) := by decide +kernel
theorem dL_law_1221 : decode cL_law 1221 = .ok (.aload_n 2, 1) := by decide +kernel
theorem dL_law_1222 : decode cL_law 1222 = .ok (.invokevirtual 114, 3) := by decide +kernel
theorem dL_law_1225 : decode cL_law 1225 = .ok (.iload 6, 2) := by decide +kernel
theorem dL_law_1227 : decode cL_law 1227 = .ok (.if_icmp .eq 5, 3) := by decide +kernel
theorem dL_law_1230 : decode cL_law 1230 = .ok (.iconst 0, 1) := by decide +kernel
theorem dL_law_1231 : decode cL_law 1231 = .ok (.ireturn, 1) := by decide +kernel
theorem dL_law_1232 : decode cL_law 1232 = .ok (.iload 6, 2) := by decide +kernel
theorem dL_law_1234 : decode cL_law 1234 = .ok (.ifCond .ne 15, 3) := by decide +kernel
theorem dL_law_1237 : decode cL_law 1237 = .ok (.aload_n 3, 1) := by decide +kernel
theorem dL_law_1238 : decode cL_law 1238 = .ok (.iconst 0, 1) := by decide +kernel
theorem dL_law_1239 : decode cL_law 1239 = .ok (.laload, 1) := by decide +kernel
theorem dL_law_1240 : decode cL_law 1240 = .ok (.iload 7, 2) := by decide +kernel
theorem dL_law_1242 : decode cL_law 1242 = .ok (.i2l, 1) := by decide +kernel
theorem dL_law_1243 : decode cL_law 1243 = .ok (.lcmp, 1) := by decide +kernel
theorem dL_law_1244 : decode cL_law 1244 = .ok (.ifCond .eq 5, 3) := by decide +kernel
theorem dL_law_1247 : decode cL_law 1247 = .ok (.iconst 0, 1) := by decide +kernel
theorem dL_law_1248 : decode cL_law 1248 = .ok (.ireturn, 1) := by decide +kernel
theorem dL_law_1249 : decode cL_law 1249 = .ok (.goto 734, 3) := by decide +kernel
theorem dL_law_1252 : decode cL_law 1252 = .ok (.aload_n 1, 1) := by decide +kernel
theorem dL_law_1253 : decode cL_law 1253 = .ok (.aload_n 0, 1) := by decide +kernel
theorem dL_law_1254 : decode cL_law 1254 = .ok (.iload 5, 2) := by decide +kernel
theorem dL_law_1256 : decode cL_law 1256 = .ok (.iconst 1, 1) := by decide +kernel
theorem dL_law_1257 : decode cL_law 1257 = .ok (.iadd, 1) := by decide +kernel
theorem dL_law_1258 : decode cL_law 1258 = .ok (.iaload, 1) := by decide +kernel
theorem dL_law_1259 : decode cL_law 1259 = .ok (.aload_n 3, 1) := by decide +kernel
theorem dL_law_1260 : decode cL_law 1260 = .ok (.invokestatic 165, 3) := by decide +kernel
theorem dL_law_1263 : decode cL_law 1263 = .ok (.istore 6, 2) := by decide +kernel
theorem dL_law_1265 : decode cL_law 1265 = .ok (.aload_n 2, 1) := by decide +kernel
theorem dL_law_1266 : decode cL_law 1266 = .ok (.aload_n 0, 1) := by decide +kernel
theorem dL_law_1267 : decode cL_law 1267 = .ok (.iload 5, 2) := by decide +kernel
theorem dL_law_1269 : decode cL_law 1269 = .ok (.iconst 1, 1) := by decide +kernel
theorem dL_law_1270 : decode cL_law 1270 = .ok (.iadd, 1) := by decide +kernel
theorem dL_law_1271 : decode cL_law 1271 = .ok (.iaload, 1) := by decide +kernel
theorem dL_law_1272 : decode cL_law 1272 = .ok (.invokevirtual 167, 3) := by decide +kernel
theorem dL_law_1275 : decode cL_law 1275 = .ok (.istore 7, 2) := by decide +kernel
theorem dL_law_1277 : decode cL_law 1277 = .ok (.aload_n 2, 1) := by decide +kernel
theorem dL_law_1278 : decode cL_law 1278 = .ok (.invokevirtual 114, 3) := by decide +kernel
theorem dL_law_1281 : decode cL_law 1281 = .ok (.iload 6, 2) := by decide +kernel
theorem dL_law_1283 : decode cL_law 1283 = .ok (.if_icmp .eq 5, 3) := by decide +kernel
theorem dL_law_1286 : decode cL_law 1286 = .ok (.iconst 0, 1) := by decide +kernel
theorem dL_law_1287 : decode cL_law 1287 = .ok (.ireturn, 1) := by decide +kernel
theorem dL_law_1288 : decode cL_law 1288 = .ok (.iload 6, 2) := by decide +kernel
theorem dL_law_1290 : decode cL_law 1290 = .ok (.ifCond .ne 15, 3) := by decide +kernel
theorem dL_law_1293 : decode cL_law 1293 = .ok (.aload_n 3, 1) := by decide +kernel
theorem dL_law_1294 : decode cL_law 1294 = .ok (.iconst 0, 1) := by decide +kernel
theorem dL_law_1295 : decode cL_law 1295 = .ok (.laload, 1) := by decide +kernel
theorem dL_law_1296 : decode cL_law 1296 = .ok (.iload 7, 2) := by decide +kernel
theorem dL_law_1298 : decode cL_law 1298 = .ok (.i2l, 1) := by decide +kernel
theorem dL_law_1299 : decode cL_law 1299 = .ok (.lcmp, 1) := by decide +kernel
theorem dL_law_1300 : decode cL_law 1300 = .ok (.ifCond .eq 5, 3) := by decide +kernel
theorem dL_law_1303 : decode cL_law 1303 = .ok (.iconst 0, 1) := by decide +kernel
theorem dL_law_1304 : decode cL_law 1304 = .ok (.ireturn, 1) := by decide +kernel
theorem dL_law_1305 : decode cL_law 1305 = .ok (.goto 678, 3) := by decide +kernel
theorem dL_law_1308 : decode cL_law 1308 = .ok (.aload_n 1, 1) := by decide +kernel
theorem dL_law_1309 : decode cL_law 1309 = .ok (.aload_n 0, 1) := by decide +kernel
theorem dL_law_1310 : decode cL_law 1310 = .ok (.iload 5, 2) := by decide +kernel
theorem dL_law_1312 : decode cL_law 1312 = .ok (.iconst 1, 1) := by decide +kernel
theorem dL_law_1313 : decode cL_law 1313 = .ok (.iadd, 1) := by decide +kernel
theorem dL_law_1314 : decode cL_law 1314 = .ok (.iaload, 1) := by decide +kernel
theorem dL_law_1315 : decode cL_law 1315 = .ok (.aload_n 0, 1) := by decide +kernel
theorem dL_law_1316 : decode cL_law 1316 = .ok (.iload 5, 2) := by decide +kernel
theorem dL_law_1318 : decode cL_law 1318 = .ok (.iconst 2, 1) := by decide +kernel
theorem dL_law_1319 : decode cL_law 1319 = .ok (.iadd, 1) := by decide +kernel
theorem dL_law_1320 : decode cL_law 1320 = .ok (.iaload, 1) := by decide +kernel
theorem dL_law_1321 : decode cL_law 1321 = .ok (.aload_n 3, 1) := by decide +kernel
theorem dL_law_1322 : decode cL_law 1322 = .ok (.invokestatic 168, 3) := by decide +kernel
theorem dL_law_1325 : decode cL_law 1325 = .ok (.istore 6, 2) := by decide +kernel
theorem dL_law_1327 : decode cL_law 1327 = .ok (.aload_n 2, 1) := by decide +kernel
theorem dL_law_1328 : decode cL_law 1328 = .ok (.aload_n 0, 1) := by decide +kernel
theorem dL_law_1329 : decode cL_law 1329 = .ok (.iload 5, 2) := by decide +kernel
theorem dL_law_1331 : decode cL_law 1331 = .ok (.iconst 1, 1) := by decide +kernel
theorem dL_law_1332 : decode cL_law 1332 = .ok (.iadd, 1) := by decide +kernel
theorem dL_law_1333 : decode cL_law 1333 = .ok (.iaload, 1) := by decide +kernel
theorem dL_law_1334 : decode cL_law 1334 = .ok (.aload_n 0, 1) := by decide +kernel
theorem dL_law_1335 : decode cL_law 1335 = .ok (.iload 5, 2) := by decide +kernel
theorem dL_law_1337 : decode cL_law 1337 = .ok (.iconst 2, 1) := by decide +kernel
theorem dL_law_1338 : decode cL_law 1338 = .ok (.iadd, 1) := by decide +kernel
theorem dL_law_1339 : decode cL_law 1339 = .ok (.iaload, 1) := by decide +kernel
theorem dL_law_1340 : decode cL_law 1340 = .ok (.invokevirtual 170, 3) := by decide +kernel
theorem dL_law_1343 : decode cL_law 1343 = .ok (.istore 7, 2) := by decide +kernel
theorem dL_law_1345 : decode cL_law 1345 = .ok (.aload_n 2, 1) := by decide +kernel
theorem dL_law_1346 : decode cL_law 1346 = .ok (.invokevirtual 114, 3) := by decide +kernel
theorem dL_law_1349 : decode cL_law 1349 = .ok (.iload 6, 2) := by decide +kernel
theorem dL_law_1351 : decode cL_law 1351 = .ok (.if_icmp .eq 5, 3) := by decide +kernel
theorem dL_law_1354 : decode cL_law 1354 = .ok (.iconst 0, 1) := by decide +kernel
theorem dL_law_1355 : decode cL_law 1355 = .ok (.ireturn, 1) := by decide +kernel
theorem dL_law_1356 : decode cL_law 1356 = .ok (.iload 6, 2) := by decide +kernel
theorem dL_law_1358 : decode cL_law 1358 = .ok (.ifCond .ne 15, 3) := by decide +kernel
theorem dL_law_1361 : decode cL_law 1361 = .ok (.aload_n 3, 1) := by decide +kernel
theorem dL_law_1362 : decode cL_law 1362 = .ok (.iconst 0, 1) := by decide +kernel
theorem dL_law_1363 : decode cL_law 1363 = .ok (.laload, 1) := by decide +kernel
theorem dL_law_1364 : decode cL_law 1364 = .ok (.iload 7, 2) := by decide +kernel
theorem dL_law_1366 : decode cL_law 1366 = .ok (.i2l, 1) := by decide +kernel
theorem dL_law_1367 : decode cL_law 1367 = .ok (.lcmp, 1) := by decide +kernel
theorem dL_law_1368 : decode cL_law 1368 = .ok (.ifCond .eq 5, 3) := by decide +kernel
theorem dL_law_1371 : decode cL_law 1371 = .ok (.iconst 0, 1) := by decide +kernel
theorem dL_law_1372 : decode cL_law 1372 = .ok (.ireturn, 1) := by decide +kernel
theorem dL_law_1373 : decode cL_law 1373 = .ok (.goto 610, 3) := by decide +kernel
theorem dL_law_1376 : decode cL_law 1376 = .ok (.aload_n 1, 1) := by decide +kernel
theorem dL_law_1377 : decode cL_law 1377 = .ok (.aload_n 0, 1) := by decide +kernel
theorem dL_law_1378 : decode cL_law 1378 = .ok (.iload 5, 2) := by decide +kernel
theorem dL_law_1380 : decode cL_law 1380 = .ok (.iconst 1, 1) := by decide +kernel
theorem dL_law_1381 : decode cL_law 1381 = .ok (.iadd, 1) := by decide +kernel
theorem dL_law_1382 : decode cL_law 1382 = .ok (.iaload, 1) := by decide +kernel
theorem dL_law_1383 : decode cL_law 1383 = .ok (.aload_n 3, 1) := by decide +kernel
theorem dL_law_1384 : decode cL_law 1384 = .ok (.invokestatic 171, 3) := by decide +kernel
theorem dL_law_1387 : decode cL_law 1387 = .ok (.istore 6, 2) := by decide +kernel
theorem dL_law_1389 : decode cL_law 1389 = .ok (.aload_n 2, 1) := by decide +kernel
theorem dL_law_1390 : decode cL_law 1390 = .ok (.aload_n 0, 1) := by decide +kernel
theorem dL_law_1391 : decode cL_law 1391 = .ok (.iload 5, 2) := by decide +kernel
theorem dL_law_1393 : decode cL_law 1393 = .ok (.iconst 1, 1) := by decide +kernel
theorem dL_law_1394 : decode cL_law 1394 = .ok (.iadd, 1) := by decide +kernel
theorem dL_law_1395 : decode cL_law 1395 = .ok (.iaload, 1) := by decide +kernel
theorem dL_law_1396 : decode cL_law 1396 = .ok (.invokevirtual 173, 3) := by decide +kernel
theorem dL_law_1399 : decode cL_law 1399 = .ok (.istore 7, 2) := by decide +kernel
theorem dL_law_1401 : decode cL_law 1401 = .ok (.aload_n 2, 1) := by decide +kernel
theorem dL_law_1402 : decode cL_law 1402 = .ok (.invokevirtual 114, 3) := by decide +kernel
theorem dL_law_1405 : decode cL_law 1405 = .ok (.iload 6, 2) := by decide +kernel
theorem dL_law_1407 : decode cL_law 1407 = .ok (.if_icmp .eq 5, 3) := by decide +kernel
theorem dL_law_1410 : decode cL_law 1410 = .ok (.iconst 0, 1) := by decide +kernel
theorem dL_law_1411 : decode cL_law 1411 = .ok (.ireturn, 1) := by decide +kernel
theorem dL_law_1412 : decode cL_law 1412 = .ok (.iload 6, 2) := by decide +kernel
theorem dL_law_1414 : decode cL_law 1414 = .ok (.ifCond .ne 15, 3) := by decide +kernel
theorem dL_law_1417 : decode cL_law 1417 = .ok (.aload_n 3, 1) := by decide +kernel
theorem dL_law_1418 : decode cL_law 1418 = .ok (.iconst 0, 1) := by decide +kernel
theorem dL_law_1419 : decode cL_law 1419 = .ok (.laload, 1) := by decide +kernel
theorem dL_law_1420 : decode cL_law 1420 = .ok (.iload 7, 2) := by decide +kernel
theorem dL_law_1422 : decode cL_law 1422 = .ok (.i2l, 1) := by decide +kernel
theorem dL_law_1423 : decode cL_law 1423 = .ok (.lcmp, 1) := by decide +kernel
theorem dL_law_1424 : decode cL_law 1424 = .ok (.ifCond .eq 5, 3) := by decide +kernel
theorem dL_law_1427 : decode cL_law 1427 = .ok (.iconst 0, 1) := by decide +kernel
theorem dL_law_1428 : decode cL_law 1428 = .ok (.ireturn, 1) := by decide +kernel
theorem dL_law_1429 : decode cL_law 1429 = .ok (.goto 554, 3) := by decide +kernel
theorem dL_law_1432 : decode cL_law 1432 = .ok (.aload_n 1, 1) := by decide +kernel
theorem dL_law_1433 : decode cL_law 1433 = .ok (.aload_n 0, 1) := by decide +kernel
theorem dL_law_1434 : decode cL_law 1434 = .ok (.iload 5, 2) := by decide +kernel
theorem dL_law_1436 : decode cL_law 1436 = .ok (.iconst 1, 1) := by decide +kernel
theorem dL_law_1437 : decode cL_law 1437 = .ok (.iadd, 1) := by decide +kernel
theorem dL_law_1438 : decode cL_law 1438 = .ok (.iaload, 1) := by decide +kernel
theorem dL_law_1439 : decode cL_law 1439 = .ok (.aload_n 3, 1) := by decide +kernel
theorem dL_law_1440 : decode cL_law 1440 = .ok (.invokestatic 174, 3) := by decide +kernel
theorem dL_law_1443 : decode cL_law 1443 = .ok (.istore 6, 2) := by decide +kernel
theorem dL_law_1445 : decode cL_law 1445 = .ok (.aload_n 2, 1) := by decide +kernel
theorem dL_law_1446 : decode cL_law 1446 = .ok (.aload_n 0, 1) := by decide +kernel
theorem dL_law_1447 : decode cL_law 1447 = .ok (.iload 5, 2) := by decide +kernel
theorem dL_law_1449 : decode cL_law 1449 = .ok (.iconst 1, 1) := by decide +kernel
theorem dL_law_1450 : decode cL_law 1450 = .ok (.iadd, 1) := by decide +kernel
theorem dL_law_1451 : decode cL_law 1451 = .ok (.iaload, 1) := by decide +kernel
theorem dL_law_1452 : decode cL_law 1452 = .ok (.invokevirtual 176, 3) := by decide +kernel
theorem dL_law_1455 : decode cL_law 1455 = .ok (.istore 7, 2) := by decide +kernel
theorem dL_law_1457 : decode cL_law 1457 = .ok (.aload_n 2, 1) := by decide +kernel
theorem dL_law_1458 : decode cL_law 1458 = .ok (.invokevirtual 114, 3) := by decide +kernel
theorem dL_law_1461 : decode cL_law 1461 = .ok (.iload 6, 2) := by decide +kernel
theorem dL_law_1463 : decode cL_law 1463 = .ok (.if_icmp .eq 5, 3) := by decide +kernel
theorem dL_law_1466 : decode cL_law 1466 = .ok (.iconst 0, 1) := by decide +kernel
theorem dL_law_1467 : decode cL_law 1467 = .ok (.ireturn, 1) := by decide +kernel
theorem dL_law_1468 : decode cL_law 1468 = .ok (.iload 6, 2) := by decide +kernel
theorem dL_law_1470 : decode cL_law 1470 = .ok (.ifCond .ne 15, 3) := by decide +kernel
theorem dL_law_1473 : decode cL_law 1473 = .ok (.aload_n 3, 1) := by decide +kernel
theorem dL_law_1474 : decode cL_law 1474 = .ok (.iconst 0, 1) := by decide +kernel
theorem dL_law_1475 : decode cL_law 1475 = .ok (.laload, 1) := by decide +kernel
theorem dL_law_1476 : decode cL_law 1476 = .ok (.iload 7, 2) := by decide +kernel
theorem dL_law_1478 : decode cL_law 1478 = .ok (.i2l, 1) := by decide +kernel
theorem dL_law_1479 : decode cL_law 1479 = .ok (.lcmp, 1) := by decide +kernel
theorem dL_law_1480 : decode cL_law 1480 = .ok (.ifCond .eq 5, 3) := by decide +kernel
theorem dL_law_1483 : decode cL_law 1483 = .ok (.iconst 0, 1) := by decide +kernel
theorem dL_law_1484 : decode cL_law 1484 = .ok (.ireturn, 1) := by decide +kernel
theorem dL_law_1485 : decode cL_law 1485 = .ok (.goto 498, 3) := by decide +kernel
theorem dL_law_1488 : decode cL_law 1488 = .ok (.aload_n 1, 1) := by decide +kernel
theorem dL_law_1489 : decode cL_law 1489 = .ok (.aload_n 0, 1) := by decide +kernel
theorem dL_law_1490 : decode cL_law 1490 = .ok (.iload 5, 2) := by decide +kernel
theorem dL_law_1492 : decode cL_law 1492 = .ok (.iconst 1, 1) := by decide +kernel
theorem dL_law_1493 : decode cL_law 1493 = .ok (.iadd, 1) := by decide +kernel
theorem dL_law_1494 : decode cL_law 1494 = .ok (.iaload, 1) := by decide +kernel
theorem dL_law_1495 : decode cL_law 1495 = .ok (.aload_n 3, 1) := by decide +kernel
theorem dL_law_1496 : decode cL_law 1496 = .ok (.invokestatic 177, 3) := by decide +kernel
theorem dL_law_1499 : decode cL_law 1499 = .ok (.istore 6, 2) := by decide +kernel
theorem dL_law_1501 : decode cL_law 1501 = .ok (.aload_n 2, 1) := by decide +kernel
theorem dL_law_1502 : decode cL_law 1502 = .ok (.aload_n 0, 1) := by decide +kernel
theorem dL_law_1503 : decode cL_law 1503 = .ok (.iload 5, 2) := by decide +kernel
theorem dL_law_1505 : decode cL_law 1505 = .ok (.iconst 1, 1) := by decide +kernel
theorem dL_law_1506 : decode cL_law 1506 = .ok (.iadd, 1) := by decide +kernel
theorem dL_law_1507 : decode cL_law 1507 = .ok (.iaload, 1) := by decide +kernel
theorem dL_law_1508 : decode cL_law 1508 = .ok (.invokevirtual 179, 3) := by decide +kernel
theorem dL_law_1511 : decode cL_law 1511 = .ok (.istore 7, 2) := by decide +kernel
theorem dL_law_1513 : decode cL_law 1513 = .ok (.aload_n 2, 1) := by decide +kernel
theorem dL_law_1514 : decode cL_law 1514 = .ok (.invokevirtual 114, 3) := by decide +kernel
theorem dL_law_1517 : decode cL_law 1517 = .ok (.iload 6, 2) := by decide +kernel
theorem dL_law_1519 : decode cL_law 1519 = .ok (.if_icmp .eq 5, 3) := by decide +kernel
theorem dL_law_1522 : decode cL_law 1522 = .ok (.iconst 0, 1) := by decide +kernel
theorem dL_law_1523 : decode cL_law 1523 = .ok (.ireturn, 1) := by decide +kernel
theorem dL_law_1524 : decode cL_law 1524 = .ok (.iload 6, 2) := by decide +kernel
theorem dL_law_1526 : decode cL_law 1526 = .ok (.ifCond .ne 15, 3) := by decide +kernel
theorem dL_law_1529 : decode cL_law 1529 = .ok (.aload_n 3, 1) := by decide +kernel
theorem dL_law_1530 : decode cL_law 1530 = .ok (.iconst 0, 1) := by decide +kernel
theorem dL_law_1531 : decode cL_law 1531 = .ok (.laload, 1) := by decide +kernel
theorem dL_law_1532 : decode cL_law 1532 = .ok (.iload 7, 2) := by decide +kernel
theorem dL_law_1534 : decode cL_law 1534 = .ok (.i2l, 1) := by decide +kernel
theorem dL_law_1535 : decode cL_law 1535 = .ok (.lcmp, 1) := by decide +kernel
theorem dL_law_1536 : decode cL_law 1536 = .ok (.ifCond .eq 5, 3) := by decide +kernel
theorem dL_law_1539 : decode cL_law 1539 = .ok (.iconst 0, 1) := by decide +kernel
theorem dL_law_1540 : decode cL_law 1540 = .ok (.ireturn, 1) := by decide +kernel
theorem dL_law_1541 : decode cL_law 1541 = .ok (.goto 442, 3) := by decide +kernel
theorem dL_law_1544 : decode cL_law 1544 = .ok (.aload_n 1, 1) := by decide +kernel
theorem dL_law_1545 : decode cL_law 1545 = .ok (.aload_n 0, 1) := by decide +kernel
theorem dL_law_1546 : decode cL_law 1546 = .ok (.iload 5, 2) := by decide +kernel
theorem dL_law_1548 : decode cL_law 1548 = .ok (.iconst 1, 1) := by decide +kernel
theorem dL_law_1549 : decode cL_law 1549 = .ok (.iadd, 1) := by decide +kernel
theorem dL_law_1550 : decode cL_law 1550 = .ok (.iaload, 1) := by decide +kernel
theorem dL_law_1551 : decode cL_law 1551 = .ok (.aload_n 3, 1) := by decide +kernel
theorem dL_law_1552 : decode cL_law 1552 = .ok (.invokestatic 180, 3) := by decide +kernel
theorem dL_law_1555 : decode cL_law 1555 = .ok (.istore 6, 2) := by decide +kernel
theorem dL_law_1557 : decode cL_law 1557 = .ok (.aload_n 2, 1) := by decide +kernel
theorem dL_law_1558 : decode cL_law 1558 = .ok (.aload_n 0, 1) := by decide +kernel
theorem dL_law_1559 : decode cL_law 1559 = .ok (.iload 5, 2) := by decide +kernel
theorem dL_law_1561 : decode cL_law 1561 = .ok (.iconst 1, 1) := by decide +kernel
theorem dL_law_1562 : decode cL_law 1562 = .ok (.iadd, 1) := by decide +kernel
theorem dL_law_1563 : decode cL_law 1563 = .ok (.iaload, 1) := by decide +kernel
theorem dL_law_1564 : decode cL_law 1564 = .ok (.invokevirtual 182, 3) := by decide +kernel
theorem dL_law_1567 : decode cL_law 1567 = .ok (.istore 7, 2) := by decide +kernel
theorem dL_law_1569 : decode cL_law 1569 = .ok (.aload_n 2, 1) := by decide +kernel
theorem dL_law_1570 : decode cL_law 1570 = .ok (.invokevirtual 114, 3) := by decide +kernel
theorem dL_law_1573 : decode cL_law 1573 = .ok (.iload 6, 2) := by decide +kernel
theorem dL_law_1575 : decode cL_law 1575 = .ok (.if_icmp .eq 5, 3) := by decide +kernel
theorem dL_law_1578 : decode cL_law 1578 = .ok (.iconst 0, 1) := by decide +kernel
theorem dL_law_1579 : decode cL_law 1579 = .ok (.ireturn, 1) := by decide +kernel
theorem dL_law_1580 : decode cL_law 1580 = .ok (.iload 6, 2) := by decide +kernel
theorem dL_law_1582 : decode cL_law 1582 = .ok (.ifCond .ne 15, 3) := by decide +kernel
theorem dL_law_1585 : decode cL_law 1585 = .ok (.aload_n 3, 1) := by decide +kernel
theorem dL_law_1586 : decode cL_law 1586 = .ok (.iconst 0, 1) := by decide +kernel
theorem dL_law_1587 : decode cL_law 1587 = .ok (.laload, 1) := by decide +kernel
theorem dL_law_1588 : decode cL_law 1588 = .ok (.iload 7, 2) := by decide +kernel
theorem dL_law_1590 : decode cL_law 1590 = .ok (.i2l, 1) := by decide +kernel
theorem dL_law_1591 : decode cL_law 1591 = .ok (.lcmp, 1) := by decide +kernel
theorem dL_law_1592 : decode cL_law 1592 = .ok (.ifCond .eq 5, 3) := by decide +kernel
theorem dL_law_1595 : decode cL_law 1595 = .ok (.iconst 0, 1) := by decide +kernel
theorem dL_law_1596 : decode cL_law 1596 = .ok (.ireturn, 1) := by decide +kernel
theorem dL_law_1597 : decode cL_law 1597 = .ok (.goto 386, 3) := by decide +kernel
theorem dL_law_1600 : decode cL_law 1600 = .ok (.aload_n 1, 1) := by decide +kernel
theorem dL_law_1601 : decode cL_law 1601 = .ok (.invokevirtual 183, 3) := by decide +kernel
theorem dL_law_1604 : decode cL_law 1604 = .ok (.aload_n 2, 1) := by decide +kernel
theorem dL_law_1605 : decode cL_law 1605 = .ok (.invokevirtual 186, 3) := by decide +kernel
theorem dL_law_1608 : decode cL_law 1608 = .ok (.if_icmp .eq 375, 3) := by decide +kernel
theorem dL_law_1611 : decode cL_law 1611 = .ok (.iconst 0, 1) := by decide +kernel
theorem dL_law_1612 : decode cL_law 1612 = .ok (.ireturn, 1) := by decide +kernel
theorem dL_law_1613 : decode cL_law 1613 = .ok (.aload_n 1, 1) := by decide +kernel
theorem dL_law_1614 : decode cL_law 1614 = .ok (.invokevirtual 187, 3) := by decide +kernel
theorem dL_law_1617 : decode cL_law 1617 = .ok (.aload_n 2, 1) := by decide +kernel
theorem dL_law_1618 : decode cL_law 1618 = .ok (.invokevirtual 190, 3) := by decide +kernel
theorem dL_law_1621 : decode cL_law 1621 = .ok (.if_icmp .eq 362, 3) := by decide +kernel
theorem dL_law_1624 : decode cL_law 1624 = .ok (.iconst 0, 1) := by decide +kernel
theorem dL_law_1625 : decode cL_law 1625 = .ok (.ireturn, 1) := by decide +kernel
theorem dL_law_1626 : decode cL_law 1626 = .ok (.aload_n 1, 1) := by decide +kernel
theorem dL_law_1627 : decode cL_law 1627 = .ok (.aload_n 0, 1) := by decide +kernel
theorem dL_law_1628 : decode cL_law 1628 = .ok (.iload 5, 2) := by decide +kernel
theorem dL_law_1630 : decode cL_law 1630 = .ok (.iconst 1, 1) := by decide +kernel
theorem dL_law_1631 : decode cL_law 1631 = .ok (.iadd, 1) := by decide +kernel
theorem dL_law_1632 : decode cL_law 1632 = .ok (.iaload, 1) := by decide +kernel
theorem dL_law_1633 : decode cL_law 1633 = .ok (.aload_n 3, 1) := by decide +kernel
theorem dL_law_1634 : decode cL_law 1634 = .ok (.invokestatic 191, 3) := by decide +kernel
theorem dL_law_1637 : decode cL_law 1637 = .ok (.istore 6, 2) := by decide +kernel
theorem dL_law_1639 : decode cL_law 1639 = .ok (.aload_n 2, 1) := by decide +kernel
theorem dL_law_1640 : decode cL_law 1640 = .ok (.aload_n 0, 1) := by decide +kernel
theorem dL_law_1641 : decode cL_law 1641 = .ok (.iload 5, 2) := by decide +kernel
theorem dL_law_1643 : decode cL_law 1643 = .ok (.iconst 1, 1) := by decide +kernel
theorem dL_law_1644 : decode cL_law 1644 = .ok (.iadd, 1) := by decide +kernel
theorem dL_law_1645 : decode cL_law 1645 = .ok (.iaload, 1) := by decide +kernel
theorem dL_law_1646 : decode cL_law 1646 = .ok (.invokevirtual 193, 3) := by decide +kernel
theorem dL_law_1649 : decode cL_law 1649 = .ok (.istore 7, 2) := by decide +kernel
theorem dL_law_1651 : decode cL_law 1651 = .ok (.aload_n 2, 1) := by decide +kernel
theorem dL_law_1652 : decode cL_law 1652 = .ok (.invokevirtual 114, 3) := by decide +kernel
theorem dL_law_1655 : decode cL_law 1655 = .ok (.iload 6, 2) := by decide +kernel
theorem dL_law_1657 : decode cL_law 1657 = .ok (.if_icmp .eq 5, 3) := by decide +kernel
theorem dL_law_1660 : decode cL_law 1660 = .ok (.iconst 0, 1) := by decide +kernel
theorem dL_law_1661 : decode cL_law 1661 = .ok (.ireturn, 1) := by decide +kernel
theorem dL_law_1662 : decode cL_law 1662 = .ok (.iload 6, 2) := by decide +kernel
theorem dL_law_1664 : decode cL_law 1664 = .ok (.ifCond .ne 15, 3) := by decide +kernel
theorem dL_law_1667 : decode cL_law 1667 = .ok (.aload_n 3, 1) := by decide +kernel
theorem dL_law_1668 : decode cL_law 1668 = .ok (.iconst 0, 1) := by decide +kernel
theorem dL_law_1669 : decode cL_law 1669 = .ok (.laload, 1) := by decide +kernel
theorem dL_law_1670 : decode cL_law 1670 = .ok (.iload 7, 2) := by decide +kernel
theorem dL_law_1672 : decode cL_law 1672 = .ok (.i2l, 1) := by decide +kernel
theorem dL_law_1673 : decode cL_law 1673 = .ok (.lcmp, 1) := by decide +kernel
theorem dL_law_1674 : decode cL_law 1674 = .ok (.ifCond .eq 5, 3) := by decide +kernel
theorem dL_law_1677 : decode cL_law 1677 = .ok (.iconst 0, 1) := by decide +kernel
theorem dL_law_1678 : decode cL_law 1678 = .ok (.ireturn, 1) := by decide +kernel
theorem dL_law_1679 : decode cL_law 1679 = .ok (.goto 304, 3) := by decide +kernel
theorem dL_law_1682 : decode cL_law 1682 = .ok (.aload_n 1, 1) := by decide +kernel
theorem dL_law_1683 : decode cL_law 1683 = .ok (.aload_n 0, 1) := by decide +kernel
theorem dL_law_1684 : decode cL_law 1684 = .ok (.iload 5, 2) := by decide +kernel
theorem dL_law_1686 : decode cL_law 1686 = .ok (.iconst 1, 1) := by decide +kernel
theorem dL_law_1687 : decode cL_law 1687 = .ok (.iadd, 1) := by decide +kernel
theorem dL_law_1688 : decode cL_law 1688 = .ok (.iaload, 1) := by decide +kernel
theorem dL_law_1689 : decode cL_law 1689 = .ok (.aload_n 3, 1) := by decide +kernel
theorem dL_law_1690 : decode cL_law 1690 = .ok (.invokestatic 194, 3) := by decide +kernel
theorem dL_law_1693 : decode cL_law 1693 = .ok (.istore 6, 2) := by decide +kernel
theorem dL_law_1695 : decode cL_law 1695 = .ok (.aload_n 2, 1) := by decide +kernel
theorem dL_law_1696 : decode cL_law 1696 = .ok (.aload_n 0, 1) := by decide +kernel
theorem dL_law_1697 : decode cL_law 1697 = .ok (.iload 5, 2) := by decide +kernel
theorem dL_law_1699 : decode cL_law 1699 = .ok (.iconst 1, 1) := by decide +kernel
theorem dL_law_1700 : decode cL_law 1700 = .ok (.iadd, 1) := by decide +kernel
theorem dL_law_1701 : decode cL_law 1701 = .ok (.iaload, 1) := by decide +kernel
theorem dL_law_1702 : decode cL_law 1702 = .ok (.invokevirtual 196, 3) := by decide +kernel
theorem dL_law_1705 : decode cL_law 1705 = .ok (.istore 7, 2) := by decide +kernel
theorem dL_law_1707 : decode cL_law 1707 = .ok (.aload_n 2, 1) := by decide +kernel
theorem dL_law_1708 : decode cL_law 1708 = .ok (.invokevirtual 114, 3) := by decide +kernel
theorem dL_law_1711 : decode cL_law 1711 = .ok (.iload 6, 2) := by decide +kernel
theorem dL_law_1713 : decode cL_law 1713 = .ok (.if_icmp .eq 5, 3) := by decide +kernel
theorem dL_law_1716 : decode cL_law 1716 = .ok (.iconst 0, 1) := by decide +kernel
theorem dL_law_1717 : decode cL_law 1717 = .ok (.ireturn, 1) := by decide +kernel
theorem dL_law_1718 : decode cL_law 1718 = .ok (.iload 6, 2) := by decide +kernel
theorem dL_law_1720 : decode cL_law 1720 = .ok (.ifCond .ne 22, 3) := by decide +kernel
theorem dL_law_1723 : decode cL_law 1723 = .ok (.aload_n 3, 1) := by decide +kernel
theorem dL_law_1724 : decode cL_law 1724 = .ok (.iconst 0, 1) := by decide +kernel
theorem dL_law_1725 : decode cL_law 1725 = .ok (.laload, 1) := by decide +kernel
theorem dL_law_1726 : decode cL_law 1726 = .ok (.iload 7, 2) := by decide +kernel
theorem dL_law_1728 : decode cL_law 1728 = .ok (.ifCond .eq 7, 3) := by decide +kernel
theorem dL_law_1731 : decode cL_law 1731 = .ok (.lconst 1, 1) := by decide +kernel
theorem dL_law_1732 : decode cL_law 1732 = .ok (.goto 4, 3) := by decide +kernel
theorem dL_law_1735 : decode cL_law 1735 = .ok (.lconst 0, 1) := by decide +kernel
theorem dL_law_1736 : decode cL_law 1736 = .ok (.lcmp, 1) := by decide +kernel
theorem dL_law_1737 : decode cL_law 1737 = .ok (.ifCond .eq 5, 3) := by decide +kernel
theorem dL_law_1740 : decode cL_law 1740 = .ok (.iconst 0, 1) := by decide +kernel
theorem dL_law_1741 : decode cL_law 1741 = .ok (.ireturn, 1) := by decide +kernel
theorem dL_law_1742 : decode cL_law 1742 = .ok (.goto 241, 3) := by decide +kernel
theorem dL_law_1745 : decode cL_law 1745 = .ok (.aload_n 1, 1) := by decide +kernel
theorem dL_law_1746 : decode cL_law 1746 = .ok (.aload_n 0, 1) := by decide +kernel
theorem dL_law_1747 : decode cL_law 1747 = .ok (.iload 5, 2) := by decide +kernel
theorem dL_law_1749 : decode cL_law 1749 = .ok (.iconst 1, 1) := by decide +kernel
theorem dL_law_1750 : decode cL_law 1750 = .ok (.iadd, 1) := by decide +kernel
theorem dL_law_1751 : decode cL_law 1751 = .ok (.iaload, 1) := by decide +kernel
theorem dL_law_1752 : decode cL_law 1752 = .ok (.aload_n 0, 1) := by decide +kernel
theorem dL_law_1753 : decode cL_law 1753 = .ok (.iload 5, 2) := by decide +kernel
theorem dL_law_1755 : decode cL_law 1755 = .ok (.iconst 2, 1) := by decide +kernel
theorem dL_law_1756 : decode cL_law 1756 = .ok (.iadd, 1) := by decide +kernel
theorem dL_law_1757 : decode cL_law 1757 = .ok (.iaload, 1) := by decide +kernel
theorem dL_law_1758 : decode cL_law 1758 = .ok (.aload_n 3, 1) := by decide +kernel
theorem dL_law_1759 : decode cL_law 1759 = .ok (.invokestatic 197, 3) := by decide +kernel
theorem dL_law_1762 : decode cL_law 1762 = .ok (.istore 6, 2) := by decide +kernel
theorem dL_law_1764 : decode cL_law 1764 = .ok (.aload_n 2, 1) := by decide +kernel
theorem dL_law_1765 : decode cL_law 1765 = .ok (.aload_n 0, 1) := by decide +kernel
theorem dL_law_1766 : decode cL_law 1766 = .ok (.iload 5, 2) := by decide +kernel
theorem dL_law_1768 : decode cL_law 1768 = .ok (.iconst 1, 1) := by decide +kernel
theorem dL_law_1769 : decode cL_law 1769 = .ok (.iadd, 1) := by decide +kernel
theorem dL_law_1770 : decode cL_law 1770 = .ok (.iaload, 1) := by decide +kernel
theorem dL_law_1771 : decode cL_law 1771 = .ok (.aload_n 0, 1) := by decide +kernel
theorem dL_law_1772 : decode cL_law 1772 = .ok (.iload 5, 2) := by decide +kernel
theorem dL_law_1774 : decode cL_law 1774 = .ok (.iconst 2, 1) := by decide +kernel
theorem dL_law_1775 : decode cL_law 1775 = .ok (.iadd, 1) := by decide +kernel
theorem dL_law_1776 : decode cL_law 1776 = .ok (.iaload, 1) := by decide +kernel
theorem dL_law_1777 : decode cL_law 1777 = .ok (.invokevirtual 199, 3) := by decide +kernel
theorem dL_law_1780 : decode cL_law 1780 = .ok (.istore 7, 2) := by decide +kernel
theorem dL_law_1782 : decode cL_law 1782 = .ok (.aload_n 2, 1) := by decide +kernel
theorem dL_law_1783 : decode cL_law 1783 = .ok (.invokevirtual 114, 3) := by decide +kernel
theorem dL_law_1786 : decode cL_law 1786 = .ok (.iload 6, 2) := by decide +kernel
theorem dL_law_1788 : decode cL_law 1788 = .ok (.if_icmp .eq 5, 3) := by decide +kernel
theorem dL_law_1791 : decode cL_law 1791 = .ok (.iconst 0, 1) := by decide +kernel
theorem dL_law_1792 : decode cL_law 1792 = .ok (.ireturn, 1) := by decide +kernel
theorem dL_law_1793 : decode cL_law 1793 = .ok (.iload 6, 2) := by decide +kernel
theorem dL_law_1795 : decode cL_law 1795 = .ok (.ifCond .ne 15, 3) := by decide +kernel
theorem dL_law_1798 : decode cL_law 1798 = .ok (.aload_n 3, 1) := by decide +kernel
theorem dL_law_1799 : decode cL_law 1799 = .ok (.iconst 0, 1) := by decide +kernel
theorem dL_law_1800 : decode cL_law 1800 = .ok (.laload, 1) := by decide +kernel
theorem dL_law_1801 : decode cL_law 1801 = .ok (.iload 7, 2) := by decide +kernel
theorem dL_law_1803 : decode cL_law 1803 = .ok (.i2l, 1) := by decide +kernel
theorem dL_law_1804 : decode cL_law 1804 = .ok (.lcmp, 1) := by decide +kernel
theorem dL_law_1805 : decode cL_law 1805 = .ok (.ifCond .eq 5, 3) := by decide +kernel
theorem dL_law_1808 : decode cL_law 1808 = .ok (.iconst 0, 1) := by decide +kernel
theorem dL_law_1809 : decode cL_law 1809 = .ok (.ireturn, 1) := by decide +kernel
theorem dL_law_1810 : decode cL_law 1810 = .ok (.goto 173, 3) := by decide +kernel
theorem dL_law_1813 : decode cL_law 1813 = .ok (.aload_n 1, 1) := by decide +kernel
theorem dL_law_1814 : decode cL_law 1814 = .ok (.aload_n 0, 1) := by decide +kernel
theorem dL_law_1815 : decode cL_law 1815 = .ok (.iload 5, 2) := by decide +kernel
theorem dL_law_1817 : decode cL_law 1817 = .ok (.iconst 1, 1) := by decide +kernel
theorem dL_law_1818 : decode cL_law 1818 = .ok (.iadd, 1) := by decide +kernel
theorem dL_law_1819 : decode cL_law 1819 = .ok (.iaload, 1) := by decide +kernel
theorem dL_law_1820 : decode cL_law 1820 = .ok (.aload_n 3, 1) := by decide +kernel
theorem dL_law_1821 : decode cL_law 1821 = .ok (.invokestatic 200, 3) := by decide +kernel
theorem dL_law_1824 : decode cL_law 1824 = .ok (.istore 6, 2) := by decide +kernel
theorem dL_law_1826 : decode cL_law 1826 = .ok (.aload_n 2, 1) := by decide +kernel
theorem dL_law_1827 : decode cL_law 1827 = .ok (.aload_n 0, 1) := by decide +kernel
theorem dL_law_1828 : decode cL_law 1828 = .ok (.iload 5, 2) := by decide +kernel
theorem dL_law_1830 : decode cL_law 1830 = .ok (.iconst 1, 1) := by decide +kernel
theorem dL_law_1831 : decode cL_law 1831 = .ok (.iadd, 1) := by decide +kernel
theorem dL_law_1832 : decode cL_law 1832 = .ok (.iaload, 1) := by decide +kernel
theorem dL_law_1833 : decode cL_law 1833 = .ok (.invokevirtual 202, 3) := by decide +kernel
theorem dL_law_1836 : decode cL_law 1836 = .ok (.istore 7, 2) := by decide +kernel
theorem dL_law_1838 : decode cL_law 1838 = .ok (.aload_n 2, 1) := by decide +kernel
theorem dL_law_1839 : decode cL_law 1839 = .ok (.invokevirtual 114, 3) := by decide +kernel
theorem dL_law_1842 : decode cL_law 1842 = .ok (.iload 6, 2) := by decide +kernel
theorem dL_law_1844 : decode cL_law 1844 = .ok (.if_icmp .eq 5, 3) := by decide +kernel
theorem dL_law_1847 : decode cL_law 1847 = .ok (.iconst 0, 1) := by decide +kernel
theorem dL_law_1848 : decode cL_law 1848 = .ok (.ireturn, 1) := by decide +kernel
theorem dL_law_1849 : decode cL_law 1849 = .ok (.iload 6, 2) := by decide +kernel
theorem dL_law_1851 : decode cL_law 1851 = .ok (.ifCond .ne 15, 3) := by decide +kernel
theorem dL_law_1854 : decode cL_law 1854 = .ok (.aload_n 3, 1) := by decide +kernel
theorem dL_law_1855 : decode cL_law 1855 = .ok (.iconst 0, 1) := by decide +kernel
theorem dL_law_1856 : decode cL_law 1856 = .ok (.laload, 1) := by decide +kernel
theorem dL_law_1857 : decode cL_law 1857 = .ok (.iload 7, 2) := by decide +kernel
theorem dL_law_1859 : decode cL_law 1859 = .ok (.i2l, 1) := by decide +kernel
theorem dL_law_1860 : decode cL_law 1860 = .ok (.lcmp, 1) := by decide +kernel
theorem dL_law_1861 : decode cL_law 1861 = .ok (.ifCond .eq 5, 3) := by decide +kernel
theorem dL_law_1864 : decode cL_law 1864 = .ok (.iconst 0, 1) := by decide +kernel
theorem dL_law_1865 : decode cL_law 1865 = .ok (.ireturn, 1) := by decide +kernel
theorem dL_law_1866 : decode cL_law 1866 = .ok (.goto 117, 3) := by decide +kernel
theorem dL_law_1869 : decode cL_law 1869 = .ok (.aload_n 1, 1) := by decide +kernel
theorem dL_law_1870 : decode cL_law 1870 = .ok (.aload_n 0, 1) := by decide +kernel
theorem dL_law_1871 : decode cL_law 1871 = .ok (.iload 5, 2) := by decide +kernel
theorem dL_law_1873 : decode cL_law 1873 = .ok (.iconst 1, 1) := by decide +kernel
theorem dL_law_1874 : decode cL_law 1874 = .ok (.iadd, 1) := by decide +kernel
theorem dL_law_1875 : decode cL_law 1875 = .ok (.iaload, 1) := by decide +kernel
theorem dL_law_1876 : decode cL_law 1876 = .ok (.aload_n 3, 1) := by decide +kernel
theorem dL_law_1877 : decode cL_law 1877 = .ok (.invokestatic 203, 3) := by decide +kernel
theorem dL_law_1880 : decode cL_law 1880 = .ok (.istore 6, 2) := by decide +kernel
theorem dL_law_1882 : decode cL_law 1882 = .ok (.aload_n 2, 1) := by decide +kernel
theorem dL_law_1883 : decode cL_law 1883 = .ok (.aload_n 0, 1) := by decide +kernel
theorem dL_law_1884 : decode cL_law 1884 = .ok (.iload 5, 2) := by decide +kernel
theorem dL_law_1886 : decode cL_law 1886 = .ok (.iconst 1, 1) := by decide +kernel
theorem dL_law_1887 : decode cL_law 1887 = .ok (.iadd, 1) := by decide +kernel
theorem dL_law_1888 : decode cL_law 1888 = .ok (.iaload, 1) := by decide +kernel
theorem dL_law_1889 : decode cL_law 1889 = .ok (.invokevirtual 205, 3) := by decide +kernel
theorem dL_law_1892 : decode cL_law 1892 = .ok (.istore 7, 2) := by decide +kernel
theorem dL_law_1894 : decode cL_law 1894 = .ok (.aload_n 2, 1) := by decide +kernel
theorem dL_law_1895 : decode cL_law 1895 = .ok (.invokevirtual 114, 3) := by decide +kernel
theorem dL_law_1898 : decode cL_law 1898 = .ok (.iload 6, 2) := by decide +kernel
theorem dL_law_1900 : decode cL_law 1900 = .ok (.if_icmp .eq 5, 3) := by decide +kernel
theorem dL_law_1903 : decode cL_law 1903 = .ok (.iconst 0, 1) := by decide +kernel
theorem dL_law_1904 : decode cL_law 1904 = .ok (.ireturn, 1) := by decide +kernel
theorem dL_law_1905 : decode cL_law 1905 = .ok (.iload 6, 2) := by decide +kernel
theorem dL_law_1907 : decode cL_law 1907 = .ok (.ifCond .ne 15, 3) := by decide +kernel
theorem dL_law_1910 : decode cL_law 1910 = .ok (.aload_n 3, 1) := by decide +kernel
theorem dL_law_1911 : decode cL_law 1911 = .ok (.iconst 0, 1) := by decide +kernel
theorem dL_law_1912 : decode cL_law 1912 = .ok (.laload, 1) := by decide +kernel
theorem dL_law_1913 : decode cL_law 1913 = .ok (.iload 7, 2) := by decide +kernel
theorem dL_law_1915 : decode cL_law 1915 = .ok (.i2l, 1) := by decide +kernel
theorem dL_law_1916 : decode cL_law 1916 = .ok (.lcmp, 1) := by decide +kernel
theorem dL_law_1917 : decode cL_law 1917 = .ok (.ifCond .eq 5, 3) := by decide +kernel
theorem dL_law_1920 : decode cL_law 1920 = .ok (.iconst 0, 1) := by decide +kernel
theorem dL_law_1921 : decode cL_law 1921 = .ok (.ireturn, 1) := by decide +kernel
theorem dL_law_1922 : decode cL_law 1922 = .ok (.goto 61, 3) := by decide +kernel
theorem dL_law_1925 : decode cL_law 1925 = .ok (.aload_n 1, 1) := by decide +kernel
theorem dL_law_1926 : decode cL_law 1926 = .ok (.aload_n 3, 1) := by decide +kernel
theorem dL_law_1927 : decode cL_law 1927 = .ok (.invokestatic 206, 3) := by decide +kernel
theorem dL_law_1930 : decode cL_law 1930 = .ok (.istore 6, 2) := by decide +kernel
theorem dL_law_1932 : decode cL_law 1932 = .ok (.aload_n 2, 1) := by decide +kernel
theorem dL_law_1933 : decode cL_law 1933 = .ok (.invokevirtual 208, 3) := by decide +kernel
theorem dL_law_1936 : decode cL_law 1936 = .ok (.istore 7, 2) := by decide +kernel
theorem dL_law_1938 : decode cL_law 1938 = .ok (.aload_n 2, 1) := by decide +kernel
theorem dL_law_1939 : decode cL_law 1939 = .ok (.invokevirtual 114, 3) := by decide +kernel
theorem dL_law_1942 : decode cL_law 1942 = .ok (.iload 6, 2) := by decide +kernel
theorem dL_law_1944 : decode cL_law 1944 = .ok (.if_icmp .eq 5, 3) := by decide +kernel
theorem dL_law_1947 : decode cL_law 1947 = .ok (.iconst 0, 1) := by decide +kernel
theorem dL_law_1948 : decode cL_law 1948 = .ok (.ireturn, 1) := by decide +kernel
theorem dL_law_1949 : decode cL_law 1949 = .ok (.iload 6, 2) := by decide +kernel
theorem dL_law_1951 : decode cL_law 1951 = .ok (.ifCond .ne 15, 3) := by decide +kernel
theorem dL_law_1954 : decode cL_law 1954 = .ok (.aload_n 3, 1) := by decide +kernel
theorem dL_law_1955 : decode cL_law 1955 = .ok (.iconst 0, 1) := by decide +kernel
theorem dL_law_1956 : decode cL_law 1956 = .ok (.laload, 1) := by decide +kernel
theorem dL_law_1957 : decode cL_law 1957 = .ok (.iload 7, 2) := by decide +kernel
theorem dL_law_1959 : decode cL_law 1959 = .ok (.i2l, 1) := by decide +kernel
theorem dL_law_1960 : decode cL_law 1960 = .ok (.lcmp, 1) := by decide +kernel
theorem dL_law_1961 : decode cL_law 1961 = .ok (.ifCond .eq 5, 3) := by decide +kernel
theorem dL_law_1964 : decode cL_law 1964 = .ok (.iconst 0, 1) := by decide +kernel
theorem dL_law_1965 : decode cL_law 1965 = .ok (.ireturn, 1) := by decide +kernel
theorem dL_law_1966 : decode cL_law 1966 = .ok (.goto 17, 3) := by decide +kernel
theorem dL_law_1969 : decode cL_law 1969 = .ok (.aload_n 1, 1) := by decide +kernel
theorem dL_law_1970 : decode cL_law 1970 = .ok (.invokevirtual 209, 3) := by decide +kernel
theorem dL_law_1973 : decode cL_law 1973 = .ok (.aload_n 2, 1) := by decide +kernel
theorem dL_law_1974 : decode cL_law 1974 = .ok (.invokevirtual 213, 3) := by decide +kernel
theorem dL_law_1977 : decode cL_law 1977 = .ok (.lcmp, 1) := by decide +kernel
theorem dL_law_1978 : decode cL_law 1978 = .ok (.ifCond .eq 5, 3) := by decide +kernel
theorem dL_law_1981 : decode cL_law 1981 = .ok (.iconst 0, 1) := by decide +kernel
theorem dL_law_1982 : decode cL_law 1982 = .ok (.ireturn, 1) := by decide +kernel
theorem dL_law_1983 : decode cL_law 1983 = .ok (.iinc 5 7, 3) := by decide +kernel
theorem dL_law_1986 : decode cL_law 1986 = .ok (.goto (-1958), 3) := by decide +kernel
theorem dL_law_1989 : decode cL_law 1989 = .ok (.iconst 1, 1) := by decide +kernel
theorem dL_law_1990 : decode cL_law 1990 = .ok (.ireturn, 1) := by decide +kernel
