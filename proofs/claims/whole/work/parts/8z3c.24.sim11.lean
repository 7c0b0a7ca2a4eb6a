/-! ONE STEP, AND A WHOLE RUN -/
theorem am_step {l : Launch} {g : am_D} {B : am_B} {ρ mi pc : Nat} {ls : am_L} {st : List Value} {h : am_H} {r : am_Q} {k : am_K} {call : am_C} (hmd : am_md B) (hk : am_PK l g B ρ mi k) (hC : am_PC l g B call)
    (e : am_s1 (B.1 h) B.2.1 B.2.2 ρ call (am_al9 B) k mi pc ls st h = some r) : am_P l g B ρ mi pc ls st h r := by
  unfold am_s1 at e
  split at e
  · cases e
  · rename_i i n x a hf
    cases i with
    | iconst v => exact st_iconst hf hk e
    | bipush v => exact st_bipush hf hk e
    | sipush v => exact st_sipush hf hk e
    | lconst v => exact st_lconst hf hk e
    | ldc v => exact st_ldc hf hk e
    | ldc_w v => exact st_ldc_w hf hk e
    | ldc2_w v => exact st_ldc2_w hf hk e
    | iload v => exact st_iload hf hk e
    | iload_n v => exact st_iload_n hf hk e
    | aload v => exact st_aload hf hk e
    | aload_n v => exact st_aload_n hf hk e
    | lload v => exact st_lload hf hk e
    | lload_n v => exact st_lload_n hf hk e
    | istore v => exact st_istore hf hk e
    | istore_n v => exact st_istore_n hf hk e
    | astore v => exact st_astore hf hk e
    | astore_n v => exact st_astore_n hf hk e
    | lstore v => exact st_lstore hf hk e
    | lstore_n v => exact st_lstore_n hf hk e
    | iinc v c => exact st_iinc hf hk e
    | pop => exact st_pop hf hk e
    | dup => exact st_dup hf hk e
    | dup2 => exact st_dup2 hf hk e
    | iadd => exact st_iadd hf hk e
    | isub => exact st_isub hf hk e
    | imul => exact st_imul hf hk e
    | idiv => exact st_idiv hf hk e
    | irem => exact st_irem hf hk e
    | iand => exact st_iand hf hk e
    | ior => exact st_ior hf hk e
    | ixor => exact st_ixor hf hk e
    | ishl => exact st_ishl hf hk e
    | ishr => exact st_ishr hf hk e
    | iushr => exact st_iushr hf hk e
    | ineg => exact st_ineg hf hk e
    | i2l => exact st_i2l hf hk e
    | i2c => exact st_i2c hf hk e
    | i2b => exact st_i2b hf hk e
    | l2i => exact st_l2i hf hk e
    | ladd => exact st_ladd hf hk e
    | lsub => exact st_lsub hf hk e
    | lmul => exact st_lmul hf hk e
    | lor => exact st_lor hf hk e
    | ldiv => exact st_ldiv hf hk e
    | lrem => exact st_lrem hf hk e
    | lcmp => exact st_lcmp hf hk e
    | lshl => exact st_lshl hf hk e
    | if_icmp c o => exact st_if_icmp hf hk e
    | ifCond c o => exact st_ifCond hf hk e
    | goto o => exact st_goto hf hk e
    | tableswitch a b c d => exact st_tableswitch hf hk e
    | lookupswitch a b => exact st_lookupswitch hf hk e
    | ireturn => exact st_ireturn hf e
    | lreturn => exact st_lreturn hf e
    | return_ => exact st_return_ hf e
    | getstatic v => exact st_getstatic hf hk e
    | getfield v => exact st_getfield hf hk e
    | putfield v => exact st_putfield hmd.1 hf hk e
    | iaload => exact st_iaload hf hk e
    | baload => exact st_baload hf hk e
    | laload => exact st_laload hf hk e
    | iastore => exact st_iastore hmd.1 hf hk e
    | bastore => exact st_bastore hmd.1 hf hk e
    | lastore => exact st_lastore hmd.1 hf hk e
    | arraylength => exact st_arraylength hf hk e
    | newarray t => exact st_newarray hmd hf hk e
    | new v => exact st_new hmd hf hk e
    | invokespecial v => exact st_invokespecial hmd hf hk hC e
    | invokevirtual v => exact st_invokevirtual hmd hf hk hC e
    | invokestatic v => exact st_invokestatic hmd hf hk hC e
    | _ => exact absurd e (fun z => nomatch z)
