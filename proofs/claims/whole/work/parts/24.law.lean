/-! the law's loop -/
def mL_law_L (xs : Nat → Int32) (L : Nat) : Nat → Int32 → fm_S → Option (Except Int32 Unit)
  | 0, _, _ => none
  | n + 1, x4, σ =>
    if ((Int32.ofNat L) - (4 : Int32)) < x4 then
      some (.ok ())
    else
      if (x4 < 0 ∨ L ≤ x4.toNatClampNeg) then none else
      if ((xs x4.toNatClampNeg) &&& (31 : Int32)) = 0 then
        if ((x4 + (1 : Int32)) < 0 ∨ L ≤ (x4 + (1 : Int32)).toNatClampNeg) then none else
        if ((x4 + (2 : Int32)) < 0 ∨ L ≤ (x4 + (2 : Int32)).toNatClampNeg) then none else
        mb2 (mL_addMember (xs (x4 + (1 : Int32)).toNatClampNeg) (xs (x4 + (2 : Int32)).toNatClampNeg) σ) fun r182 σ182 =>
        mb2 (mX5_addMember (xs (x4 + (1 : Int32)).toNatClampNeg) (xs (x4 + (2 : Int32)).toNatClampNeg) σ182) fun r200 σ200 =>
        mb1 (mX5_thrown σ200) fun r206 =>
        if r206 = r182 then
          if r182 = 0 then
            if ((0 : Int32) < 0 ∨ 1 ≤ (0 : Int32).toNatClampNeg) then none else
            if (lg_cmp (rL σ200 55 (0 : Int32)) (r200.toInt64)) = 0 then
              mL_law_L xs L n (x4 + 4) σ200
            else
              some (.error (0 : Int32))
          else
            mL_law_L xs L n (x4 + 4) σ200
        else
          some (.error (0 : Int32))
      else
      if ((xs x4.toNatClampNeg) &&& (31 : Int32)) = 1 then
        if ((x4 + (1 : Int32)) < 0 ∨ L ≤ (x4 + (1 : Int32)).toNatClampNeg) then none else
        if ((x4 + (2 : Int32)) < 0 ∨ L ≤ (x4 + (2 : Int32)).toNatClampNeg) then none else
        if ((x4 + (3 : Int32)) < 0 ∨ L ≤ (x4 + (3 : Int32)).toNatClampNeg) then none else
        mb2 (mL_move (xs (x4 + (1 : Int32)).toNatClampNeg) (xs (x4 + (2 : Int32)).toNatClampNeg) (xs (x4 + (3 : Int32)).toNatClampNeg) σ) fun r255 σ255 =>
        mb1 (mX5_move (xs (x4 + (1 : Int32)).toNatClampNeg) (xs (x4 + (2 : Int32)).toNatClampNeg) (xs (x4 + (3 : Int32)).toNatClampNeg) σ255) fun σ279 =>
        mb1 (mX5_thrown σ279) fun r283 =>
        if r283 = r255 then
          mL_law_L xs L n (x4 + 4) σ279
        else
          some (.error (0 : Int32))
      else
      if ((xs x4.toNatClampNeg) &&& (31 : Int32)) = 2 then
        if ((x4 + (1 : Int32)) < 0 ∨ L ≤ (x4 + (1 : Int32)).toNatClampNeg) then none else
        mb2 (mL_toggle (xs (x4 + (1 : Int32)).toNatClampNeg) σ) fun r304 σ304 =>
        mb2 (mX5_toggle (xs (x4 + (1 : Int32)).toNatClampNeg) σ304) fun r316 σ316 =>
        mb1 (mX5_thrown σ316) fun r322 =>
        if r322 = r304 then
          if r304 = 0 then
            if ((0 : Int32) < 0 ∨ 1 ≤ (0 : Int32).toNatClampNeg) then none else
            mb1 (show Option (Int64) from
              if r316 = 0 then
                some ((0 : Int64))
              else
                some ((1 : Int64))) fun v10_0 =>
            if (lg_cmp (rL σ316 55 (0 : Int32)) v10_0) = 0 then
              mL_law_L xs L n (x4 + 4) σ316
            else
              some (.error (0 : Int32))
          else
            mL_law_L xs L n (x4 + 4) σ316
        else
          some (.error (0 : Int32))
      else
      if ((xs x4.toNatClampNeg) &&& (31 : Int32)) = 3 then
        if ((x4 + (1 : Int32)) < 0 ∨ L ≤ (x4 + (1 : Int32)).toNatClampNeg) then none else
        if ((x4 + (2 : Int32)) < 0 ∨ L ≤ (x4 + (2 : Int32)).toNatClampNeg) then none else
        mb2 (mL_setPriority (xs (x4 + (1 : Int32)).toNatClampNeg) (xs (x4 + (2 : Int32)).toNatClampNeg) σ) fun r373 σ373 =>
        mb2 (mX5_setPriority (xs (x4 + (1 : Int32)).toNatClampNeg) (xs (x4 + (2 : Int32)).toNatClampNeg) σ373) fun r391 σ391 =>
        mb1 (mX5_thrown σ391) fun r397 =>
        if r397 = r373 then
          if r373 = 0 then
            if ((0 : Int32) < 0 ∨ 1 ≤ (0 : Int32).toNatClampNeg) then none else
            if (lg_cmp (rL σ391 55 (0 : Int32)) (r391.toInt64)) = 0 then
              mL_law_L xs L n (x4 + 4) σ391
            else
              some (.error (0 : Int32))
          else
            mL_law_L xs L n (x4 + 4) σ391
        else
          some (.error (0 : Int32))
      else
      if ((xs x4.toNatClampNeg) &&& (31 : Int32)) = 4 then
        if ((x4 + (1 : Int32)) < 0 ∨ L ≤ (x4 + (1 : Int32)).toNatClampNeg) then none else
        mb2 (mL_setRange (xs (x4 + (1 : Int32)).toNatClampNeg) σ) fun r435 σ435 =>
        mb2 (mX5_setRange (xs (x4 + (1 : Int32)).toNatClampNeg) σ435) fun r447 σ447 =>
        mb1 (mX5_thrown σ447) fun r453 =>
        if r453 = r435 then
          if r435 = 0 then
            if ((0 : Int32) < 0 ∨ 1 ≤ (0 : Int32).toNatClampNeg) then none else
            if (lg_cmp (rL σ447 55 (0 : Int32)) (r447.toInt64)) = 0 then
              mL_law_L xs L n (x4 + 4) σ447
            else
              some (.error (0 : Int32))
          else
            mL_law_L xs L n (x4 + 4) σ447
        else
          some (.error (0 : Int32))
      else
      if ((xs x4.toNatClampNeg) &&& (31 : Int32)) = 5 then
        if ((x4 + (1 : Int32)) < 0 ∨ L ≤ (x4 + (1 : Int32)).toNatClampNeg) then none else
        if ((x4 + (2 : Int32)) < 0 ∨ L ≤ (x4 + (2 : Int32)).toNatClampNeg) then none else
        mb2 (mL_block (xs (x4 + (1 : Int32)).toNatClampNeg) (xs (x4 + (2 : Int32)).toNatClampNeg) σ) fun r497 σ497 =>
        mb2 (mX5_block (xs (x4 + (1 : Int32)).toNatClampNeg) (xs (x4 + (2 : Int32)).toNatClampNeg) σ497) fun r515 σ515 =>
        mb1 (mX5_thrown σ515) fun r521 =>
        if r521 = r497 then
          if r497 = 0 then
            if ((0 : Int32) < 0 ∨ 1 ≤ (0 : Int32).toNatClampNeg) then none else
            mb1 (show Option (Int64) from
              if r515 = 0 then
                some ((0 : Int64))
              else
                some ((1 : Int64))) fun v19_0 =>
            if (lg_cmp (rL σ515 55 (0 : Int32)) v19_0) = 0 then
              mL_law_L xs L n (x4 + 4) σ515
            else
              some (.error (0 : Int32))
          else
            mL_law_L xs L n (x4 + 4) σ515
        else
          some (.error (0 : Int32))
      else
      if ((xs x4.toNatClampNeg) &&& (31 : Int32)) = 6 then
        mb1 (mX4_members σ) fun r559 =>
        mb2 (mX5_members σ) fun r563 σ563 =>
        if r559 = r563 then
          mL_law_L xs L n (x4 + 4) σ563
        else
          some (.error (0 : Int32))
      else
      if ((xs x4.toNatClampNeg) &&& (31 : Int32)) = 7 then
        if ((x4 + (1 : Int32)) < 0 ∨ L ≤ (x4 + (1 : Int32)).toNatClampNeg) then none else
        mb2 (mL_xOf (xs (x4 + (1 : Int32)).toNatClampNeg) σ) fun r579 σ579 =>
        mb2 (mX5_xOf (xs (x4 + (1 : Int32)).toNatClampNeg) σ579) fun r591 σ591 =>
        mb1 (mX5_thrown σ591) fun r597 =>
        if r597 = r579 then
          if r579 = 0 then
            if ((0 : Int32) < 0 ∨ 1 ≤ (0 : Int32).toNatClampNeg) then none else
            if (lg_cmp (rL σ591 55 (0 : Int32)) (r591.toInt64)) = 0 then
              mL_law_L xs L n (x4 + 4) σ591
            else
              some (.error (0 : Int32))
          else
            mL_law_L xs L n (x4 + 4) σ591
        else
          some (.error (0 : Int32))
      else
      if ((xs x4.toNatClampNeg) &&& (31 : Int32)) = 8 then
        if ((x4 + (1 : Int32)) < 0 ∨ L ≤ (x4 + (1 : Int32)).toNatClampNeg) then none else
        mb2 (mL_yOf (xs (x4 + (1 : Int32)).toNatClampNeg) σ) fun r635 σ635 =>
        mb2 (mX5_yOf (xs (x4 + (1 : Int32)).toNatClampNeg) σ635) fun r647 σ647 =>
        mb1 (mX5_thrown σ647) fun r653 =>
        if r653 = r635 then
          if r635 = 0 then
            if ((0 : Int32) < 0 ∨ 1 ≤ (0 : Int32).toNatClampNeg) then none else
            if (lg_cmp (rL σ647 55 (0 : Int32)) (r647.toInt64)) = 0 then
              mL_law_L xs L n (x4 + 4) σ647
            else
              some (.error (0 : Int32))
          else
            mL_law_L xs L n (x4 + 4) σ647
        else
          some (.error (0 : Int32))
      else
      if ((xs x4.toNatClampNeg) &&& (31 : Int32)) = 9 then
        if ((x4 + (1 : Int32)) < 0 ∨ L ≤ (x4 + (1 : Int32)).toNatClampNeg) then none else
        if ((x4 + (2 : Int32)) < 0 ∨ L ≤ (x4 + (2 : Int32)).toNatClampNeg) then none else
        mb2 (mL_areLinked (xs (x4 + (1 : Int32)).toNatClampNeg) (xs (x4 + (2 : Int32)).toNatClampNeg) σ) fun r697 σ697 =>
        mb2 (mX5_areLinked (xs (x4 + (1 : Int32)).toNatClampNeg) (xs (x4 + (2 : Int32)).toNatClampNeg) σ697) fun r715 σ715 =>
        mb1 (mX5_thrown σ715) fun r721 =>
        if r721 = r697 then
          if r697 = 0 then
            if ((0 : Int32) < 0 ∨ 1 ≤ (0 : Int32).toNatClampNeg) then none else
            mb1 (show Option (Int64) from
              if r715 = 0 then
                some ((0 : Int64))
              else
                some ((1 : Int64))) fun v27_0 =>
            if (lg_cmp (rL σ715 55 (0 : Int32)) v27_0) = 0 then
              mL_law_L xs L n (x4 + 4) σ715
            else
              some (.error (0 : Int32))
          else
            mL_law_L xs L n (x4 + 4) σ715
        else
          some (.error (0 : Int32))
      else
      if ((xs x4.toNatClampNeg) &&& (31 : Int32)) = 10 then
        mb2 (mX4_links σ) fun r759 σ759 =>
        mb2 (mX5_links σ759) fun r763 σ763 =>
        if r759 = r763 then
          mL_law_L xs L n (x4 + 4) σ763
        else
          some (.error (0 : Int32))
      else
      if ((xs x4.toNatClampNeg) &&& (31 : Int32)) = 11 then
        if ((x4 + (1 : Int32)) < 0 ∨ L ≤ (x4 + (1 : Int32)).toNatClampNeg) then none else
        mb2 (mL_degree (xs (x4 + (1 : Int32)).toNatClampNeg) σ) fun r779 σ779 =>
        mb2 (mX5_degree (xs (x4 + (1 : Int32)).toNatClampNeg) σ779) fun r791 σ791 =>
        mb1 (mX5_thrown σ791) fun r797 =>
        if r797 = r779 then
          if r779 = 0 then
            if ((0 : Int32) < 0 ∨ 1 ≤ (0 : Int32).toNatClampNeg) then none else
            if (lg_cmp (rL σ791 55 (0 : Int32)) (r791.toInt64)) = 0 then
              mL_law_L xs L n (x4 + 4) σ791
            else
              some (.error (0 : Int32))
          else
            mL_law_L xs L n (x4 + 4) σ791
        else
          some (.error (0 : Int32))
      else
      if ((xs x4.toNatClampNeg) &&& (31 : Int32)) = 12 then
        mb2 (mX4_groups σ) fun r828 σ828 =>
        mb2 (mX5_groups σ828) fun r832 σ832 =>
        if r828 = r832 then
          mL_law_L xs L n (x4 + 4) σ832
        else
          some (.error (0 : Int32))
      else
      if ((xs x4.toNatClampNeg) &&& (31 : Int32)) = 13 then
        if ((x4 + (1 : Int32)) < 0 ∨ L ≤ (x4 + (1 : Int32)).toNatClampNeg) then none else
        mb2 (mL_leader (xs (x4 + (1 : Int32)).toNatClampNeg) σ) fun r848 σ848 =>
        mb2 (mX5_leader (xs (x4 + (1 : Int32)).toNatClampNeg) σ848) fun r860 σ860 =>
        mb1 (mX5_thrown σ860) fun r866 =>
        if r866 = r848 then
          if r848 = 0 then
            if ((0 : Int32) < 0 ∨ 1 ≤ (0 : Int32).toNatClampNeg) then none else
            if (lg_cmp (rL σ860 55 (0 : Int32)) (r860.toInt64)) = 0 then
              mL_law_L xs L n (x4 + 4) σ860
            else
              some (.error (0 : Int32))
          else
            mL_law_L xs L n (x4 + 4) σ860
        else
          some (.error (0 : Int32))
      else
      if ((xs x4.toNatClampNeg) &&& (31 : Int32)) = 14 then
        mb2 (mX4_trees σ) fun r897 σ897 =>
        mb2 (mX5_trees σ897) fun r901 σ901 =>
        if (lg_cmp r897 r901) = 0 then
          mL_law_L xs L n (x4 + 4) σ901
        else
          some (.error (0 : Int32))
      else
      if ((xs x4.toNatClampNeg) &&& (31 : Int32)) = 15 then
        if ((x4 + (1 : Int32)) < 0 ∨ L ≤ (x4 + (1 : Int32)).toNatClampNeg) then none else
        if ((x4 + (2 : Int32)) < 0 ∨ L ≤ (x4 + (2 : Int32)).toNatClampNeg) then none else
        mb2 (mL_setEstimate (xs (x4 + (1 : Int32)).toNatClampNeg) (xs (x4 + (2 : Int32)).toNatClampNeg) σ) fun r924 σ924 =>
        mb2 (mX5_setEstimate (xs (x4 + (1 : Int32)).toNatClampNeg) (xs (x4 + (2 : Int32)).toNatClampNeg) σ924) fun r942 σ942 =>
        mb1 (mX5_thrown σ942) fun r948 =>
        if r948 = r924 then
          if r924 = 0 then
            if ((0 : Int32) < 0 ∨ 1 ≤ (0 : Int32).toNatClampNeg) then none else
            if (lg_cmp (rL σ942 55 (0 : Int32)) (r942.toInt64)) = 0 then
              mL_law_L xs L n (x4 + 4) σ942
            else
              some (.error (0 : Int32))
          else
            mL_law_L xs L n (x4 + 4) σ942
        else
          some (.error (0 : Int32))
      else
      if ((xs x4.toNatClampNeg) &&& (31 : Int32)) = 16 then
        if ((x4 + (1 : Int32)) < 0 ∨ L ≤ (x4 + (1 : Int32)).toNatClampNeg) then none else
        mb2 (mL_estimate (xs (x4 + (1 : Int32)).toNatClampNeg) σ) fun r986 σ986 =>
        mb2 (mX5_estimate (xs (x4 + (1 : Int32)).toNatClampNeg) σ986) fun r998 σ998 =>
        mb1 (mX5_thrown σ998) fun r1004 =>
        if r1004 = r986 then
          if r986 = 0 then
            if ((0 : Int32) < 0 ∨ 1 ≤ (0 : Int32).toNatClampNeg) then none else
            if (lg_cmp (rL σ998 55 (0 : Int32)) (r998.toInt64)) = 0 then
              mL_law_L xs L n (x4 + 4) σ998
            else
              some (.error (0 : Int32))
          else
            mL_law_L xs L n (x4 + 4) σ998
        else
          some (.error (0 : Int32))
      else
      if ((xs x4.toNatClampNeg) &&& (31 : Int32)) = 17 then
        if ((x4 + (1 : Int32)) < 0 ∨ L ≤ (x4 + (1 : Int32)).toNatClampNeg) then none else
        mb2 (mL_agree (xs (x4 + (1 : Int32)).toNatClampNeg) σ) fun r1042 σ1042 =>
        mb2 (mX5_agree (xs (x4 + (1 : Int32)).toNatClampNeg) σ1042) fun r1054 σ1054 =>
        mb1 (mX5_thrown σ1054) fun r1060 =>
        if r1060 = r1042 then
          if r1042 = 0 then
            if ((0 : Int32) < 0 ∨ 1 ≤ (0 : Int32).toNatClampNeg) then none else
            if (lg_cmp (rL σ1054 55 (0 : Int32)) (r1054.toInt64)) = 0 then
              mL_law_L xs L n (x4 + 4) σ1054
            else
              some (.error (0 : Int32))
          else
            mL_law_L xs L n (x4 + 4) σ1054
        else
          some (.error (0 : Int32))
      else
      if ((xs x4.toNatClampNeg) &&& (31 : Int32)) = 18 then
        if ((x4 + (1 : Int32)) < 0 ∨ L ≤ (x4 + (1 : Int32)).toNatClampNeg) then none else
        if ((x4 + (2 : Int32)) < 0 ∨ L ≤ (x4 + (2 : Int32)).toNatClampNeg) then none else
        mb2 (mL_setSum (xs (x4 + (1 : Int32)).toNatClampNeg) (xs (x4 + (2 : Int32)).toNatClampNeg) σ) fun r1104 σ1104 =>
        mb2 (mX5_setSum (xs (x4 + (1 : Int32)).toNatClampNeg) (xs (x4 + (2 : Int32)).toNatClampNeg) σ1104) fun r1122 σ1122 =>
        mb1 (mX5_thrown σ1122) fun r1128 =>
        if r1128 = r1104 then
          if r1104 = 0 then
            if ((0 : Int32) < 0 ∨ 1 ≤ (0 : Int32).toNatClampNeg) then none else
            if (lg_cmp (rL σ1122 55 (0 : Int32)) (r1122.toInt64)) = 0 then
              mL_law_L xs L n (x4 + 4) σ1122
            else
              some (.error (0 : Int32))
          else
            mL_law_L xs L n (x4 + 4) σ1122
        else
          some (.error (0 : Int32))
      else
      if ((xs x4.toNatClampNeg) &&& (31 : Int32)) = 19 then
        if ((x4 + (1 : Int32)) < 0 ∨ L ≤ (x4 + (1 : Int32)).toNatClampNeg) then none else
        mb2 (mL_sum (xs (x4 + (1 : Int32)).toNatClampNeg) σ) fun r1166 σ1166 =>
        mb2 (mX5_sum (xs (x4 + (1 : Int32)).toNatClampNeg) σ1166) fun r1178 σ1178 =>
        mb1 (mX5_thrown σ1178) fun r1184 =>
        if r1184 = r1166 then
          if r1166 = 0 then
            if ((0 : Int32) < 0 ∨ 1 ≤ (0 : Int32).toNatClampNeg) then none else
            if (lg_cmp (rL σ1178 55 (0 : Int32)) (r1178.toInt64)) = 0 then
              mL_law_L xs L n (x4 + 4) σ1178
            else
              some (.error (0 : Int32))
          else
            mL_law_L xs L n (x4 + 4) σ1178
        else
          some (.error (0 : Int32))
      else
      if ((xs x4.toNatClampNeg) &&& (31 : Int32)) = 20 then
        if ((x4 + (1 : Int32)) < 0 ∨ L ≤ (x4 + (1 : Int32)).toNatClampNeg) then none else
        mb2 (mL_weight (xs (x4 + (1 : Int32)).toNatClampNeg) σ) fun r1222 σ1222 =>
        mb2 (mX5_weight (xs (x4 + (1 : Int32)).toNatClampNeg) σ1222) fun r1234 σ1234 =>
        mb1 (mX5_thrown σ1234) fun r1240 =>
        if r1240 = r1222 then
          if r1222 = 0 then
            if ((0 : Int32) < 0 ∨ 1 ≤ (0 : Int32).toNatClampNeg) then none else
            if (lg_cmp (rL σ1234 55 (0 : Int32)) (r1234.toInt64)) = 0 then
              mL_law_L xs L n (x4 + 4) σ1234
            else
              some (.error (0 : Int32))
          else
            mL_law_L xs L n (x4 + 4) σ1234
        else
          some (.error (0 : Int32))
      else
      if ((xs x4.toNatClampNeg) &&& (31 : Int32)) = 21 then
        if ((x4 + (1 : Int32)) < 0 ∨ L ≤ (x4 + (1 : Int32)).toNatClampNeg) then none else
        mb2 (mL_spread (xs (x4 + (1 : Int32)).toNatClampNeg) σ) fun r1278 σ1278 =>
        mb2 (mX5_spread (xs (x4 + (1 : Int32)).toNatClampNeg) σ1278) fun r1290 σ1290 =>
        mb1 (mX5_thrown σ1290) fun r1296 =>
        if r1296 = r1278 then
          if r1278 = 0 then
            if ((0 : Int32) < 0 ∨ 1 ≤ (0 : Int32).toNatClampNeg) then none else
            if (lg_cmp (rL σ1290 55 (0 : Int32)) (r1290.toInt64)) = 0 then
              mL_law_L xs L n (x4 + 4) σ1290
            else
              some (.error (0 : Int32))
          else
            mL_law_L xs L n (x4 + 4) σ1290
        else
          some (.error (0 : Int32))
      else
      if ((xs x4.toNatClampNeg) &&& (31 : Int32)) = 22 then
        if ((x4 + (1 : Int32)) < 0 ∨ L ≤ (x4 + (1 : Int32)).toNatClampNeg) then none else
        if ((x4 + (2 : Int32)) < 0 ∨ L ≤ (x4 + (2 : Int32)).toNatClampNeg) then none else
        if ((x4 + (3 : Int32)) < 0 ∨ L ≤ (x4 + (3 : Int32)).toNatClampNeg) then none else
        mb2 (mL_want (xs (x4 + (1 : Int32)).toNatClampNeg) (xs (x4 + (2 : Int32)).toNatClampNeg) (xs (x4 + (3 : Int32)).toNatClampNeg) σ) fun r1346 σ1346 =>
        mb2 (mX5_want (xs (x4 + (1 : Int32)).toNatClampNeg) (xs (x4 + (2 : Int32)).toNatClampNeg) (xs (x4 + (3 : Int32)).toNatClampNeg) σ1346) fun r1370 σ1370 =>
        mb1 (mX5_thrown σ1370) fun r1376 =>
        if r1376 = r1346 then
          if r1346 = 0 then
            if ((0 : Int32) < 0 ∨ 1 ≤ (0 : Int32).toNatClampNeg) then none else
            if (lg_cmp (rL σ1370 55 (0 : Int32)) (r1370.toInt64)) = 0 then
              mL_law_L xs L n (x4 + 4) σ1370
            else
              some (.error (0 : Int32))
          else
            mL_law_L xs L n (x4 + 4) σ1370
        else
          some (.error (0 : Int32))
      else
      if ((xs x4.toNatClampNeg) &&& (31 : Int32)) = 23 then
        mb2 (mX4_error σ) fun r1407 σ1407 =>
        mb2 (mX5_error σ1407) fun r1411 σ1411 =>
        if r1407 = r1411 then
          mL_law_L xs L n (x4 + 4) σ1411
        else
          some (.error (0 : Int32))
      else
      if ((xs x4.toNatClampNeg) &&& (31 : Int32)) = 24 then
        if ((x4 + (1 : Int32)) < 0 ∨ L ≤ (x4 + (1 : Int32)).toNatClampNeg) then none else
        mb2 (mL_settle (xs (x4 + (1 : Int32)).toNatClampNeg) σ) fun r1427 σ1427 =>
        mb2 (mX5_settle (xs (x4 + (1 : Int32)).toNatClampNeg) σ1427) fun r1439 σ1439 =>
        mb1 (mX5_thrown σ1439) fun r1445 =>
        if r1445 = r1427 then
          if r1427 = 0 then
            if ((0 : Int32) < 0 ∨ 1 ≤ (0 : Int32).toNatClampNeg) then none else
            if (lg_cmp (rL σ1439 55 (0 : Int32)) (r1439.toInt64)) = 0 then
              mL_law_L xs L n (x4 + 4) σ1439
            else
              some (.error (0 : Int32))
          else
            mL_law_L xs L n (x4 + 4) σ1439
        else
          some (.error (0 : Int32))
      else
      if ((xs x4.toNatClampNeg) &&& (31 : Int32)) = 25 then
        mb2 (mX4_rank σ) fun r1476 σ1476 =>
        mb2 (mX5_rank σ1476) fun r1480 σ1480 =>
        if r1476 = r1480 then
          mL_law_L xs L n (x4 + 4) σ1480
        else
          some (.error (0 : Int32))
      else
      if ((xs x4.toNatClampNeg) &&& (31 : Int32)) = 26 then
        mb2 (mX4_rankByCounting σ) fun r1489 σ1489 =>
        mb2 (mX5_rankByCounting σ1489) fun r1493 σ1493 =>
        if r1489 = r1493 then
          mL_law_L xs L n (x4 + 4) σ1493
        else
          some (.error (0 : Int32))
      else
      if ((xs x4.toNatClampNeg) &&& (31 : Int32)) = 27 then
        mb2 (mX4_isRigid σ) fun r1502 σ1502 =>
        mb2 (mX5_isRigid σ1502) fun r1506 σ1506 =>
        if r1502 = r1506 then
          mL_law_L xs L n (x4 + 4) σ1506
        else
          some (.error (0 : Int32))
      else
      if ((xs x4.toNatClampNeg) &&& (31 : Int32)) = 28 then
        if ((x4 + (1 : Int32)) < 0 ∨ L ≤ (x4 + (1 : Int32)).toNatClampNeg) then none else
        if ((x4 + (2 : Int32)) < 0 ∨ L ≤ (x4 + (2 : Int32)).toNatClampNeg) then none else
        mb2 (mL_isSpare (xs (x4 + (1 : Int32)).toNatClampNeg) (xs (x4 + (2 : Int32)).toNatClampNeg) σ) fun r1528 σ1528 =>
        mb2 (mX5_isSpare (xs (x4 + (1 : Int32)).toNatClampNeg) (xs (x4 + (2 : Int32)).toNatClampNeg) σ1528) fun r1546 σ1546 =>
        mb1 (mX5_thrown σ1546) fun r1552 =>
        if r1552 = r1528 then
          if r1528 = 0 then
            if ((0 : Int32) < 0 ∨ 1 ≤ (0 : Int32).toNatClampNeg) then none else
            mb1 (show Option (Int64) from
              if r1546 = 0 then
                some ((0 : Int64))
              else
                some ((1 : Int64))) fun v57_0 =>
            if (lg_cmp (rL σ1546 55 (0 : Int32)) v57_0) = 0 then
              mL_law_L xs L n (x4 + 4) σ1546
            else
              some (.error (0 : Int32))
          else
            mL_law_L xs L n (x4 + 4) σ1546
        else
          some (.error (0 : Int32))
      else
      mL_law_L xs L n (x4 + 4) σ
set_option maxHeartbeats 40000000 in
set_option maxRecDepth 100000 in
theorem wL_law_L {p : Program} {l : Launch} {e : Env} {s : State} {m : MethodId} {args : Array Value} {below : List Frame} {meth : Method} {c : Code} {Q : State → Prop} {K : fm_K} {A : Nat → Prop} {b L : Nat} {xs : Nat → Int32} (hfl : l.stackTraces = false) (C : CallFix p m c cL_law 7 s args wsL_law RL) (hst : fm_st K A s s.heap) (hA : ∀ q, fm_A K s.heap.size q → A q) (hX : va_X b L xs s s.heap) (hbl : b < s.heap.size) (hbA : ¬ A b) :
    ∀ (n : Nat) (ce sl : Nat) (x4 : Int32) (σ : fm_S), ce + 8 * n ≤ 600000 → sl + 48 * n ≤ 7000000 → mL_law_L xs L n x4 σ = some (.ok ()) → (∀ (σ : fm_S) (ls : Array Slot) (H : Heap) (locs : List Loc), fm_H K σ A s H locs → W p l e room_1 s m args below meth c H locs 630926 7203325 Q (F0 m 1595 ls [])) → ∀ (ls : Array Slot) (H : Heap) (locs : List Loc), lv_has ls 7 [(0, .ref b), (1, .ref (K.2.2.2 0)), (2, .ref (K.2.2.2 40)), (3, .ref (K.2.2.2 55)), (4, .int x4)] → fm_H K σ A s H locs → W p l e room_1 s m args below meth c H locs ce sl Q (F0 m 23 ls []) := by
  obtain ⟨hx, hb, hml, hown, hts⟩ := id C
  intro n
  induction n with
  | zero => intro ce sl x4 σ hce hsl h; simp [mL_law_L] at h
  | succ n ih =>
    intro ce sl x4 σ hce hsl h kk ls H locs hl hH
    rw [mL_law_L] at h
    refine lv_iload hx hb dL_law_23 (lv_at hl 4 rfl) ?_
    refine lv_aload_n hx hb dL_law_25 rfl (lv_at hl 0 rfl) ?_
    refine va_slen hx hb hX hbl hbA hH.2.2 dL_law_26 ?_
    refine lv_iconst (v := 4) hx hb dL_law_27 (by decide) ?_
    refine lv_isub hx hb dL_law_28 ?_
    refine lv_icmp_gt (tgt := 1595) hx hb dL_law_29 (by decide) (fun hc => ?_) (fun hc => ?_)
    · replace h := mi_pos hc h
      refine W.widen (k := 630926) (n := 7203325) (by omega) (by omega) ?_
      exact kk _ _ _ _ hH
    · replace h := mi_neg hc h
      refine lv_aload_n hx hb dL_law_32 rfl (lv_at hl 0 rfl) ?_
      refine lv_iload hx hb dL_law_33 (lv_at hl 4 rfl) ?_
      obtain ⟨hi1, h⟩ := mi_chk h
      refine va_sld hx hb hX hbl hbA hH.2.2 hi1 dL_law_35 ?_
      refine lv_bipush (v := 31) hx hb dL_law_36 (by decide) ?_
      refine lv_iand hx hb dL_law_38 ?_
      by_cases hk : ((xs x4.toNatClampNeg) &&& (31 : Int32)) = 0
      · replace h := mi_pos hk h
        rw [hk]
        refine lv_tableIn (tgt := 168) hx hb dL_law_39 (by decide) (by decide) rfl (by decide) ?_
        refine lv_aload_n hx hb dL_law_168 rfl (lv_at hl 1 rfl) ?_
        refine lv_aload_n hx hb dL_law_169 rfl (lv_at hl 0 rfl) ?_
        refine lv_iload hx hb dL_law_170 (lv_at hl 4 rfl) ?_
        refine lv_iconst (v := 1) hx hb dL_law_172 (by decide) ?_
        refine lv_iadd hx hb dL_law_173 ?_
        obtain ⟨hi2, h⟩ := mi_chk h
        refine va_sld hx hb hX hbl hbA hH.2.2 hi2 dL_law_174 ?_
        refine lv_aload_n hx hb dL_law_175 rfl (lv_at hl 0 rfl) ?_
        refine lv_iload hx hb dL_law_176 (lv_at hl 4 rfl) ?_
        refine lv_iconst (v := 2) hx hb dL_law_178 (by decide) ?_
        refine lv_iadd hx hb dL_law_179 ?_
        obtain ⟨hi3, h⟩ := mi_chk h
        refine va_sld hx hb hX hbl hbA hH.2.2 hi3 dL_law_180 ?_
        refine lv_aload_n hx hb dL_law_181 rfl (lv_at hl 3 rfl) ?_
        obtain ⟨r182, σ182, h182, h⟩ := mi_b2 h
        refine fm_ciW (vx_runSW (As := [.ref (K.2.2.2 0), .int (xs (x4 + (1 : Int32)).toNatClampNeg), .int (xs (x4 + (2 : Int32)).toNatClampNeg), .ref (K.2.2.2 55)]) (rest := []) C (kL_addMember l K hfl h182 _) (vx_cwSW 4 hts gL_law_L_addMember rfl rfl rfl (by decide +kernel) ⟨(Nat.le_of_ble_eq_true rfl), (Nat.le_of_ble_eq_true rfl)⟩) ⟨fm_blind, fm_pre hst hA hH⟩ rfl rfl hl.1 rfl (lv_room (Nat.le_of_ble_eq_true rfl)) dL_law_182 ⟨by show _ ≤ 630926; omega, by show _ ≤ 7203325; omega⟩) hA hH (fun H locs hH => ?_)
        refine W.widen (k := ce + 3) (n := sl + 18) (by omega) (by omega) ?_
        refine lv_istore (lv' := [(5, .int r182), (0, .ref b), (1, .ref (K.2.2.2 0)), (2, .ref (K.2.2.2 40)), (3, .ref (K.2.2.2 55)), (4, .int x4)]) hx hb dL_law_185 hl (by decide) rfl (fun ls hl => ?_)
        refine lv_aload_n hx hb dL_law_187 rfl (lv_at hl 3 rfl) ?_
        refine lv_aload_n hx hb dL_law_188 rfl (lv_at hl 1 rfl) ?_
        refine lv_iload hx hb dL_law_189 (lv_at hl 5 rfl) ?_
        refine lv_iconst (v := 1) hx hb dL_law_191 (by decide) ?_
        refine lv_iadd hx hb dL_law_192 ?_
        refine va_sld hx hb hX hbl hbA hH.2.2 hi2 dL_law_193 ?_
        refine lv_aload_n hx hb dL_law_194 rfl (lv_at hl 1 rfl) ?_
        refine lv_iload hx hb dL_law_195 (lv_at hl 5 rfl) ?_
        refine lv_iconst (v := 2) hx hb dL_law_197 (by decide) ?_
        refine lv_iadd hx hb dL_law_198 ?_
        refine va_sld hx hb hX hbl hbA hH.2.2 hi3 dL_law_199 ?_
        obtain ⟨r200, σ200, h200, h⟩ := mi_b2 h
        refine fm_ci (va_runV (As := [.int (xs (x4 + (1 : Int32)).toNatClampNeg), .int (xs (x4 + (2 : Int32)).toNatClampNeg)]) (rest := []) C (kX5_addMember l K h200 _) (cwV 2 hts gL_law_X5_addMember rfl rfl rfl (by decide +kernel) ⟨(Nat.le_of_ble_eq_true rfl), (Nat.le_of_ble_eq_true rfl)⟩) ⟨fm_blind, fm_recv hst hH (q := 40) (by decide) rfl (fm_ob_40 _ _) rfl, fm_pre hst hA hH⟩ rfl rfl hl.1 rfl (lv_room (Nat.le_of_ble_eq_true rfl)) dL_law_200 ⟨by show _ ≤ 630926; omega, by show _ ≤ 7203325; omega⟩) hA hH (fun H locs hH => ?_)
        refine lv_istore (lv' := [(6, .int r200), (5, .int r182), (0, .ref b), (1, .ref (K.2.2.2 0)), (2, .ref (K.2.2.2 40)), (3, .ref (K.2.2.2 55)), (4, .int x4)]) hx hb dL_law_203 hl (by decide) rfl (fun ls hl => ?_)
        refine lv_aload_n hx hb dL_law_205 rfl (lv_at hl 4 rfl) ?_
        obtain ⟨r206, h206, h⟩ := mi_b1 h
        refine fm_ci (va_runV (As := []) (rest := []) C (kX5_thrown l K h206 _) (cwV 0 hts gL_law_X5_thrown rfl rfl rfl (by decide +kernel) ⟨(Nat.le_of_ble_eq_true rfl), (Nat.le_of_ble_eq_true rfl)⟩) ⟨fm_blind, fm_recv hst hH (q := 40) (by decide) rfl (fm_ob_40 _ _) rfl, fm_pre hst hA hH⟩ rfl rfl hl.1 rfl (lv_room (Nat.le_of_ble_eq_true rfl)) dL_law_206 ⟨by show _ ≤ 630926; omega, by show _ ≤ 7203325; omega⟩) hA hH (fun H locs hH => ?_)
        refine lv_iload hx hb dL_law_209 (lv_at hl 1 rfl) ?_
        refine lv_icmp_eq (tgt := 216) hx hb dL_law_211 (by decide) (fun hc => ?_) (fun hc => ?_)
        · replace h := mi_pos hc h
          refine lv_iload hx hb dL_law_216 (lv_at hl 1 rfl) ?_
          refine lv_if_ne (tgt := 233) hx hb dL_law_218 (by decide) (fun hc => ?_) (fun hc => ?_)
          · replace h := mi_neg hc h
            refine lv_goto (tgt := 1589) hx hb dL_law_233 (by decide) ?_
            refine lv_iinc (v := (x4 + 4)) (lv' := [(4, .int (x4 + 4)), (6, .int r200), (5, .int r182), (0, .ref b), (1, .ref (K.2.2.2 0)), (2, .ref (K.2.2.2 40)), (3, .ref (K.2.2.2 55))]) hx hb dL_law_1589 hl (k := 6) rfl rfl (by decide) rfl (fun ls hl => ?_)
            refine lv_goto (tgt := 23) hx hb dL_law_1592 (by decide) ?_
            refine W.widen (k := ce + 8) (n := sl + 48) (by omega) (by omega) ?_
            exact ih _ _ _ _ (by omega) (by omega) h kk _ _ _ (lv_sub hl [3, 4, 5, 6, 0] rfl) hH
          · replace h := mi_pos hc h
            refine lv_aload_n hx hb dL_law_221 rfl (lv_at hl 5 rfl) ?_
            refine lv_iconst (v := 0) hx hb dL_law_222 (by decide) ?_
            obtain ⟨hi4, h⟩ := mi_chk h
            refine fm_lld hx hb hst.1 hH 55 (by decide) rfl rfl hi4 dL_law_223 ?_
            refine lv_iload hx hb dL_law_224 (lv_at hl 0 rfl) ?_
            refine lv_i2l (v := r200.toInt64) hx hb dL_law_226 rfl ?_
            refine W.lcmp hx hb dL_law_227 ?_
            refine lv_if_eq (tgt := 233) hx hb dL_law_228 (by decide) (fun hc => ?_) (fun hc => ?_)
            · replace h := mi_pos hc h
              refine lv_goto (tgt := 1589) hx hb dL_law_233 (by decide) ?_
              refine lv_iinc (v := (x4 + 4)) (lv' := [(4, .int (x4 + 4)), (6, .int r200), (5, .int r182), (0, .ref b), (1, .ref (K.2.2.2 0)), (2, .ref (K.2.2.2 40)), (3, .ref (K.2.2.2 55))]) hx hb dL_law_1589 hl (k := 6) rfl rfl (by decide) rfl (fun ls hl => ?_)
              refine lv_goto (tgt := 23) hx hb dL_law_1592 (by decide) ?_
              refine W.widen (k := ce + 8) (n := sl + 48) (by omega) (by omega) ?_
              exact ih _ _ _ _ (by omega) (by omega) h kk _ _ _ (lv_sub hl [3, 4, 5, 6, 0] rfl) hH
            · replace h := mi_neg hc h
              refine lv_iconst (v := 0) hx hb dL_law_231 (by decide) ?_
              cases h
        · replace h := mi_neg hc h
          refine lv_iconst (v := 0) hx hb dL_law_214 (by decide) ?_
          cases h
      have hk0 := hk
      clear hk
      replace h := mi_neg hk0 h
      by_cases hk : ((xs x4.toNatClampNeg) &&& (31 : Int32)) = 1
      · replace h := mi_pos hk h
        rw [hk]
        refine lv_tableIn (tgt := 236) hx hb dL_law_39 (by decide) (by decide) rfl (by decide) ?_
        refine lv_aload_n hx hb dL_law_236 rfl (lv_at hl 1 rfl) ?_
        refine lv_aload_n hx hb dL_law_237 rfl (lv_at hl 0 rfl) ?_
        refine lv_iload hx hb dL_law_238 (lv_at hl 4 rfl) ?_
        refine lv_iconst (v := 1) hx hb dL_law_240 (by decide) ?_
        refine lv_iadd hx hb dL_law_241 ?_
        obtain ⟨hi5, h⟩ := mi_chk h
        refine va_sld hx hb hX hbl hbA hH.2.2 hi5 dL_law_242 ?_
        refine lv_aload_n hx hb dL_law_243 rfl (lv_at hl 0 rfl) ?_
        refine lv_iload hx hb dL_law_244 (lv_at hl 4 rfl) ?_
        refine lv_iconst (v := 2) hx hb dL_law_246 (by decide) ?_
        refine lv_iadd hx hb dL_law_247 ?_
        obtain ⟨hi6, h⟩ := mi_chk h
        refine va_sld hx hb hX hbl hbA hH.2.2 hi6 dL_law_248 ?_
        refine lv_aload_n hx hb dL_law_249 rfl (lv_at hl 0 rfl) ?_
        refine lv_iload hx hb dL_law_250 (lv_at hl 4 rfl) ?_
        refine lv_iconst (v := 3) hx hb dL_law_252 (by decide) ?_
        refine lv_iadd hx hb dL_law_253 ?_
        obtain ⟨hi7, h⟩ := mi_chk h
        refine va_sld hx hb hX hbl hbA hH.2.2 hi7 dL_law_254 ?_
        obtain ⟨r255, σ255, h255, h⟩ := mi_b2 h
        refine fm_ciW (vx_runSW (As := [.ref (K.2.2.2 0), .int (xs (x4 + (1 : Int32)).toNatClampNeg), .int (xs (x4 + (2 : Int32)).toNatClampNeg), .int (xs (x4 + (3 : Int32)).toNatClampNeg)]) (rest := []) C (kL_move l K hfl h255 _) (vx_cwSW 4 hts gL_law_L_move rfl rfl rfl (by decide +kernel) ⟨(Nat.le_of_ble_eq_true rfl), (Nat.le_of_ble_eq_true rfl)⟩) ⟨fm_blind, fm_pre hst hA hH⟩ rfl rfl hl.1 rfl (lv_room (Nat.le_of_ble_eq_true rfl)) dL_law_255 ⟨by show _ ≤ 630926; omega, by show _ ≤ 7203325; omega⟩) hA hH (fun H locs hH => ?_)
        refine W.widen (k := ce + 3) (n := sl + 18) (by omega) (by omega) ?_
        refine lv_istore (lv' := [(5, .int r255), (0, .ref b), (1, .ref (K.2.2.2 0)), (2, .ref (K.2.2.2 40)), (3, .ref (K.2.2.2 55)), (4, .int x4)]) hx hb dL_law_258 hl (by decide) rfl (fun ls hl => ?_)
        refine lv_aload_n hx hb dL_law_260 rfl (lv_at hl 3 rfl) ?_
        refine lv_aload_n hx hb dL_law_261 rfl (lv_at hl 1 rfl) ?_
        refine lv_iload hx hb dL_law_262 (lv_at hl 5 rfl) ?_
        refine lv_iconst (v := 1) hx hb dL_law_264 (by decide) ?_
        refine lv_iadd hx hb dL_law_265 ?_
        refine va_sld hx hb hX hbl hbA hH.2.2 hi5 dL_law_266 ?_
        refine lv_aload_n hx hb dL_law_267 rfl (lv_at hl 1 rfl) ?_
        refine lv_iload hx hb dL_law_268 (lv_at hl 5 rfl) ?_
        refine lv_iconst (v := 2) hx hb dL_law_270 (by decide) ?_
        refine lv_iadd hx hb dL_law_271 ?_
        refine va_sld hx hb hX hbl hbA hH.2.2 hi6 dL_law_272 ?_
        refine lv_aload_n hx hb dL_law_273 rfl (lv_at hl 1 rfl) ?_
        refine lv_iload hx hb dL_law_274 (lv_at hl 5 rfl) ?_
        refine lv_iconst (v := 3) hx hb dL_law_276 (by decide) ?_
        refine lv_iadd hx hb dL_law_277 ?_
        refine va_sld hx hb hX hbl hbA hH.2.2 hi7 dL_law_278 ?_
        obtain ⟨σ279, h279, h⟩ := mi_b1 h
        refine fm_cv (va_runV (As := [.int (xs (x4 + (1 : Int32)).toNatClampNeg), .int (xs (x4 + (2 : Int32)).toNatClampNeg), .int (xs (x4 + (3 : Int32)).toNatClampNeg)]) (rest := []) C (kX5_move l K h279 _) (cwV 3 hts gL_law_X5_move rfl rfl rfl (by decide +kernel) ⟨(Nat.le_of_ble_eq_true rfl), (Nat.le_of_ble_eq_true rfl)⟩) ⟨fm_blind, fm_recv hst hH (q := 40) (by decide) rfl (fm_ob_40 _ _) rfl, fm_pre hst hA hH⟩ rfl rfl hl.1 rfl (lv_room (Nat.le_of_ble_eq_true rfl)) dL_law_279 ⟨by show _ ≤ 630926; omega, by show _ ≤ 7203325; omega⟩) hA hH (fun H locs hH => ?_)
        refine lv_aload_n hx hb dL_law_282 rfl (lv_at hl 3 rfl) ?_
        obtain ⟨r283, h283, h⟩ := mi_b1 h
        refine fm_ci (va_runV (As := []) (rest := []) C (kX5_thrown l K h283 _) (cwV 0 hts gL_law_X5_thrown rfl rfl rfl (by decide +kernel) ⟨(Nat.le_of_ble_eq_true rfl), (Nat.le_of_ble_eq_true rfl)⟩) ⟨fm_blind, fm_recv hst hH (q := 40) (by decide) rfl (fm_ob_40 _ _) rfl, fm_pre hst hA hH⟩ rfl rfl hl.1 rfl (lv_room (Nat.le_of_ble_eq_true rfl)) dL_law_283 ⟨by show _ ≤ 630926; omega, by show _ ≤ 7203325; omega⟩) hA hH (fun H locs hH => ?_)
        refine lv_iload hx hb dL_law_286 (lv_at hl 0 rfl) ?_
        refine lv_icmp_eq (tgt := 293) hx hb dL_law_288 (by decide) (fun hc => ?_) (fun hc => ?_)
        · replace h := mi_pos hc h
          refine lv_goto (tgt := 1589) hx hb dL_law_293 (by decide) ?_
          refine lv_iinc (v := (x4 + 4)) (lv' := [(4, .int (x4 + 4)), (5, .int r255), (0, .ref b), (1, .ref (K.2.2.2 0)), (2, .ref (K.2.2.2 40)), (3, .ref (K.2.2.2 55))]) hx hb dL_law_1589 hl (k := 5) rfl rfl (by decide) rfl (fun ls hl => ?_)
          refine lv_goto (tgt := 23) hx hb dL_law_1592 (by decide) ?_
          refine W.widen (k := ce + 8) (n := sl + 48) (by omega) (by omega) ?_
          exact ih _ _ _ _ (by omega) (by omega) h kk _ _ _ (lv_sub hl [2, 3, 4, 5, 0] rfl) hH
        · replace h := mi_neg hc h
          refine lv_iconst (v := 0) hx hb dL_law_291 (by decide) ?_
          cases h
      have hk1 := hk
      clear hk
      replace h := mi_neg hk1 h
      by_cases hk : ((xs x4.toNatClampNeg) &&& (31 : Int32)) = 2
      · replace h := mi_pos hk h
        rw [hk]
        refine lv_tableIn (tgt := 296) hx hb dL_law_39 (by decide) (by decide) rfl (by decide) ?_
        refine lv_aload_n hx hb dL_law_296 rfl (lv_at hl 1 rfl) ?_
        refine lv_aload_n hx hb dL_law_297 rfl (lv_at hl 0 rfl) ?_
        refine lv_iload hx hb dL_law_298 (lv_at hl 4 rfl) ?_
        refine lv_iconst (v := 1) hx hb dL_law_300 (by decide) ?_
        refine lv_iadd hx hb dL_law_301 ?_
        obtain ⟨hi8, h⟩ := mi_chk h
        refine va_sld hx hb hX hbl hbA hH.2.2 hi8 dL_law_302 ?_
        refine lv_aload_n hx hb dL_law_303 rfl (lv_at hl 3 rfl) ?_
        obtain ⟨r304, σ304, h304, h⟩ := mi_b2 h
        refine fm_ciW (vx_runSW (As := [.ref (K.2.2.2 0), .int (xs (x4 + (1 : Int32)).toNatClampNeg), .ref (K.2.2.2 55)]) (rest := []) C (kL_toggle l K hfl h304 _) (vx_cwSW 3 hts gL_law_L_toggle rfl rfl rfl (by decide +kernel) ⟨(Nat.le_of_ble_eq_true rfl), (Nat.le_of_ble_eq_true rfl)⟩) ⟨fm_blind, fm_pre hst hA hH⟩ rfl rfl hl.1 rfl (lv_room (Nat.le_of_ble_eq_true rfl)) dL_law_304 ⟨by show _ ≤ 630926; omega, by show _ ≤ 7203325; omega⟩) hA hH (fun H locs hH => ?_)
        refine W.widen (k := ce + 1) (n := sl + 6) (by omega) (by omega) ?_
        refine lv_istore (lv' := [(5, .int r304), (0, .ref b), (1, .ref (K.2.2.2 0)), (2, .ref (K.2.2.2 40)), (3, .ref (K.2.2.2 55)), (4, .int x4)]) hx hb dL_law_307 hl (by decide) rfl (fun ls hl => ?_)
        refine lv_aload_n hx hb dL_law_309 rfl (lv_at hl 3 rfl) ?_
        refine lv_aload_n hx hb dL_law_310 rfl (lv_at hl 1 rfl) ?_
        refine lv_iload hx hb dL_law_311 (lv_at hl 5 rfl) ?_
        refine lv_iconst (v := 1) hx hb dL_law_313 (by decide) ?_
        refine lv_iadd hx hb dL_law_314 ?_
        refine va_sld hx hb hX hbl hbA hH.2.2 hi8 dL_law_315 ?_
        obtain ⟨r316, σ316, h316, h⟩ := mi_b2 h
        refine fm_ci (va_runV (As := [.int (xs (x4 + (1 : Int32)).toNatClampNeg)]) (rest := []) C (kX5_toggle l K h316 _) (cwV 1 hts gL_law_X5_toggle rfl rfl rfl (by decide +kernel) ⟨(Nat.le_of_ble_eq_true rfl), (Nat.le_of_ble_eq_true rfl)⟩) ⟨fm_blind, fm_recv hst hH (q := 40) (by decide) rfl (fm_ob_40 _ _) rfl, fm_pre hst hA hH⟩ rfl rfl hl.1 rfl (lv_room (Nat.le_of_ble_eq_true rfl)) dL_law_316 ⟨by show _ ≤ 630926; omega, by show _ ≤ 7203325; omega⟩) hA hH (fun H locs hH => ?_)
        refine lv_istore (lv' := [(6, .int r316), (5, .int r304), (0, .ref b), (1, .ref (K.2.2.2 0)), (2, .ref (K.2.2.2 40)), (3, .ref (K.2.2.2 55)), (4, .int x4)]) hx hb dL_law_319 hl (by decide) rfl (fun ls hl => ?_)
        refine lv_aload_n hx hb dL_law_321 rfl (lv_at hl 4 rfl) ?_
        obtain ⟨r322, h322, h⟩ := mi_b1 h
        refine fm_ci (va_runV (As := []) (rest := []) C (kX5_thrown l K h322 _) (cwV 0 hts gL_law_X5_thrown rfl rfl rfl (by decide +kernel) ⟨(Nat.le_of_ble_eq_true rfl), (Nat.le_of_ble_eq_true rfl)⟩) ⟨fm_blind, fm_recv hst hH (q := 40) (by decide) rfl (fm_ob_40 _ _) rfl, fm_pre hst hA hH⟩ rfl rfl hl.1 rfl (lv_room (Nat.le_of_ble_eq_true rfl)) dL_law_322 ⟨by show _ ≤ 630926; omega, by show _ ≤ 7203325; omega⟩) hA hH (fun H locs hH => ?_)
        refine lv_iload hx hb dL_law_325 (lv_at hl 1 rfl) ?_
        refine lv_icmp_eq (tgt := 332) hx hb dL_law_327 (by decide) (fun hc => ?_) (fun hc => ?_)
        · replace h := mi_pos hc h
          refine lv_iload hx hb dL_law_332 (lv_at hl 1 rfl) ?_
          refine lv_if_ne (tgt := 356) hx hb dL_law_334 (by decide) (fun hc => ?_) (fun hc => ?_)
          · replace h := mi_neg hc h
            refine lv_goto (tgt := 1589) hx hb dL_law_356 (by decide) ?_
            refine lv_iinc (v := (x4 + 4)) (lv' := [(4, .int (x4 + 4)), (6, .int r316), (5, .int r304), (0, .ref b), (1, .ref (K.2.2.2 0)), (2, .ref (K.2.2.2 40)), (3, .ref (K.2.2.2 55))]) hx hb dL_law_1589 hl (k := 6) rfl rfl (by decide) rfl (fun ls hl => ?_)
            refine lv_goto (tgt := 23) hx hb dL_law_1592 (by decide) ?_
            refine W.widen (k := ce + 8) (n := sl + 48) (by omega) (by omega) ?_
            exact ih _ _ _ _ (by omega) (by omega) h kk _ _ _ (lv_sub hl [3, 4, 5, 6, 0] rfl) hH
          · replace h := mi_pos hc h
            refine lv_aload_n hx hb dL_law_337 rfl (lv_at hl 5 rfl) ?_
            refine lv_iconst (v := 0) hx hb dL_law_338 (by decide) ?_
            obtain ⟨hi9, h⟩ := mi_chk h
            refine fm_lld hx hb hst.1 hH 55 (by decide) rfl rfl hi9 dL_law_339 ?_
            refine lv_iload hx hb dL_law_340 (lv_at hl 0 rfl) ?_
            obtain ⟨v10_0, hd, h2⟩ := mi_b1 h
            have kj : ∀ (ls : Array Slot) (H : Heap) (locs : List Loc), lv_has ls 7 [(0, .ref b), (1, .ref (K.2.2.2 0)), (2, .ref (K.2.2.2 40)), (3, .ref (K.2.2.2 55)), (4, .int x4)] → fm_H K σ316 A s H locs → W p l e room_1 s m args below meth c H locs (ce + 1) (sl + 6) Q (F0 m 350 ls [.long v10_0, .long (rL σ316 55 (0 : Int32))]) := by
              clear h hd
              intro ls H locs hl hH
              have h := h2
              clear h2
              refine W.lcmp hx hb dL_law_350 ?_
              refine lv_if_eq (tgt := 356) hx hb dL_law_351 (by decide) (fun hc => ?_) (fun hc => ?_)
              · replace h := mi_pos hc h
                refine lv_goto (tgt := 1589) hx hb dL_law_356 (by decide) ?_
                refine lv_iinc (v := (x4 + 4)) (lv' := [(4, .int (x4 + 4)), (0, .ref b), (1, .ref (K.2.2.2 0)), (2, .ref (K.2.2.2 40)), (3, .ref (K.2.2.2 55))]) hx hb dL_law_1589 hl (k := 4) rfl rfl (by decide) rfl (fun ls hl => ?_)
                refine lv_goto (tgt := 23) hx hb dL_law_1592 (by decide) ?_
                refine W.widen (k := ce + 8) (n := sl + 48) (by omega) (by omega) ?_
                exact ih _ _ _ _ (by omega) (by omega) h kk _ _ _ (lv_sub hl [1, 2, 3, 4, 0] rfl) hH
              · replace h := mi_neg hc h
                refine lv_iconst (v := 0) hx hb dL_law_354 (by decide) ?_
                cases h
            replace h := hd
            clear h2 hd
            refine lv_if_eq (tgt := 349) hx hb dL_law_342 (by decide) (fun hc => ?_) (fun hc => ?_)
            · replace h := mi_pos hc h
              refine lv_lconst (v := 0) hx hb dL_law_349 (by decide) ?_
              cases h
              exact kj _ _ _ (lv_sub hl [2, 3, 4, 5, 6] rfl) hH
            · replace h := mi_neg hc h
              refine lv_lconst (v := 1) hx hb dL_law_345 (by decide) ?_
              refine lv_goto (tgt := 350) hx hb dL_law_346 (by decide) ?_
              cases h
              exact kj _ _ _ (lv_sub hl [2, 3, 4, 5, 6] rfl) hH
        · replace h := mi_neg hc h
          refine lv_iconst (v := 0) hx hb dL_law_330 (by decide) ?_
          cases h
      have hk2 := hk
      clear hk
      replace h := mi_neg hk2 h
      by_cases hk : ((xs x4.toNatClampNeg) &&& (31 : Int32)) = 3
      · replace h := mi_pos hk h
        rw [hk]
        refine lv_tableIn (tgt := 359) hx hb dL_law_39 (by decide) (by decide) rfl (by decide) ?_
        refine lv_aload_n hx hb dL_law_359 rfl (lv_at hl 1 rfl) ?_
        refine lv_aload_n hx hb dL_law_360 rfl (lv_at hl 0 rfl) ?_
        refine lv_iload hx hb dL_law_361 (lv_at hl 4 rfl) ?_
        refine lv_iconst (v := 1) hx hb dL_law_363 (by decide) ?_
        refine lv_iadd hx hb dL_law_364 ?_
        obtain ⟨hi11, h⟩ := mi_chk h
        refine va_sld hx hb hX hbl hbA hH.2.2 hi11 dL_law_365 ?_
        refine lv_aload_n hx hb dL_law_366 rfl (lv_at hl 0 rfl) ?_
        refine lv_iload hx hb dL_law_367 (lv_at hl 4 rfl) ?_
        refine lv_iconst (v := 2) hx hb dL_law_369 (by decide) ?_
        refine lv_iadd hx hb dL_law_370 ?_
        obtain ⟨hi12, h⟩ := mi_chk h
        refine va_sld hx hb hX hbl hbA hH.2.2 hi12 dL_law_371 ?_
        refine lv_aload_n hx hb dL_law_372 rfl (lv_at hl 3 rfl) ?_
        obtain ⟨r373, σ373, h373, h⟩ := mi_b2 h
        refine fm_ciW (vx_runSW (As := [.ref (K.2.2.2 0), .int (xs (x4 + (1 : Int32)).toNatClampNeg), .int (xs (x4 + (2 : Int32)).toNatClampNeg), .ref (K.2.2.2 55)]) (rest := []) C (kL_setPriority l K hfl h373 _) (vx_cwSW 4 hts gL_law_L_setPriority rfl rfl rfl (by decide +kernel) ⟨(Nat.le_of_ble_eq_true rfl), (Nat.le_of_ble_eq_true rfl)⟩) ⟨fm_blind, fm_pre hst hA hH⟩ rfl rfl hl.1 rfl (lv_room (Nat.le_of_ble_eq_true rfl)) dL_law_373 ⟨by show _ ≤ 630926; omega, by show _ ≤ 7203325; omega⟩) hA hH (fun H locs hH => ?_)
        refine W.widen (k := ce + 2) (n := sl + 12) (by omega) (by omega) ?_
        refine lv_istore (lv' := [(5, .int r373), (0, .ref b), (1, .ref (K.2.2.2 0)), (2, .ref (K.2.2.2 40)), (3, .ref (K.2.2.2 55)), (4, .int x4)]) hx hb dL_law_376 hl (by decide) rfl (fun ls hl => ?_)
        refine lv_aload_n hx hb dL_law_378 rfl (lv_at hl 3 rfl) ?_
        refine lv_aload_n hx hb dL_law_379 rfl (lv_at hl 1 rfl) ?_
        refine lv_iload hx hb dL_law_380 (lv_at hl 5 rfl) ?_
        refine lv_iconst (v := 1) hx hb dL_law_382 (by decide) ?_
        refine lv_iadd hx hb dL_law_383 ?_
        refine va_sld hx hb hX hbl hbA hH.2.2 hi11 dL_law_384 ?_
        refine lv_aload_n hx hb dL_law_385 rfl (lv_at hl 1 rfl) ?_
        refine lv_iload hx hb dL_law_386 (lv_at hl 5 rfl) ?_
        refine lv_iconst (v := 2) hx hb dL_law_388 (by decide) ?_
        refine lv_iadd hx hb dL_law_389 ?_
        refine va_sld hx hb hX hbl hbA hH.2.2 hi12 dL_law_390 ?_
        obtain ⟨r391, σ391, h391, h⟩ := mi_b2 h
        refine fm_ci (va_runV (As := [.int (xs (x4 + (1 : Int32)).toNatClampNeg), .int (xs (x4 + (2 : Int32)).toNatClampNeg)]) (rest := []) C (kX5_setPriority l K h391 _) (cwV 2 hts gL_law_X5_setPriority rfl rfl rfl (by decide +kernel) ⟨(Nat.le_of_ble_eq_true rfl), (Nat.le_of_ble_eq_true rfl)⟩) ⟨fm_blind, fm_recv hst hH (q := 40) (by decide) rfl (fm_ob_40 _ _) rfl, fm_pre hst hA hH⟩ rfl rfl hl.1 rfl (lv_room (Nat.le_of_ble_eq_true rfl)) dL_law_391 ⟨by show _ ≤ 630926; omega, by show _ ≤ 7203325; omega⟩) hA hH (fun H locs hH => ?_)
        refine lv_istore (lv' := [(6, .int r391), (5, .int r373), (0, .ref b), (1, .ref (K.2.2.2 0)), (2, .ref (K.2.2.2 40)), (3, .ref (K.2.2.2 55)), (4, .int x4)]) hx hb dL_law_394 hl (by decide) rfl (fun ls hl => ?_)
        refine lv_aload_n hx hb dL_law_396 rfl (lv_at hl 4 rfl) ?_
        obtain ⟨r397, h397, h⟩ := mi_b1 h
        refine fm_ci (va_runV (As := []) (rest := []) C (kX5_thrown l K h397 _) (cwV 0 hts gL_law_X5_thrown rfl rfl rfl (by decide +kernel) ⟨(Nat.le_of_ble_eq_true rfl), (Nat.le_of_ble_eq_true rfl)⟩) ⟨fm_blind, fm_recv hst hH (q := 40) (by decide) rfl (fm_ob_40 _ _) rfl, fm_pre hst hA hH⟩ rfl rfl hl.1 rfl (lv_room (Nat.le_of_ble_eq_true rfl)) dL_law_397 ⟨by show _ ≤ 630926; omega, by show _ ≤ 7203325; omega⟩) hA hH (fun H locs hH => ?_)
        refine lv_iload hx hb dL_law_400 (lv_at hl 1 rfl) ?_
        refine lv_icmp_eq (tgt := 407) hx hb dL_law_402 (by decide) (fun hc => ?_) (fun hc => ?_)
        · replace h := mi_pos hc h
          refine lv_iload hx hb dL_law_407 (lv_at hl 1 rfl) ?_
          refine lv_if_ne (tgt := 424) hx hb dL_law_409 (by decide) (fun hc => ?_) (fun hc => ?_)
          · replace h := mi_neg hc h
            refine lv_goto (tgt := 1589) hx hb dL_law_424 (by decide) ?_
            refine lv_iinc (v := (x4 + 4)) (lv' := [(4, .int (x4 + 4)), (6, .int r391), (5, .int r373), (0, .ref b), (1, .ref (K.2.2.2 0)), (2, .ref (K.2.2.2 40)), (3, .ref (K.2.2.2 55))]) hx hb dL_law_1589 hl (k := 6) rfl rfl (by decide) rfl (fun ls hl => ?_)
            refine lv_goto (tgt := 23) hx hb dL_law_1592 (by decide) ?_
            refine W.widen (k := ce + 8) (n := sl + 48) (by omega) (by omega) ?_
            exact ih _ _ _ _ (by omega) (by omega) h kk _ _ _ (lv_sub hl [3, 4, 5, 6, 0] rfl) hH
          · replace h := mi_pos hc h
            refine lv_aload_n hx hb dL_law_412 rfl (lv_at hl 5 rfl) ?_
            refine lv_iconst (v := 0) hx hb dL_law_413 (by decide) ?_
            obtain ⟨hi13, h⟩ := mi_chk h
            refine fm_lld hx hb hst.1 hH 55 (by decide) rfl rfl hi13 dL_law_414 ?_
            refine lv_iload hx hb dL_law_415 (lv_at hl 0 rfl) ?_
            refine lv_i2l (v := r391.toInt64) hx hb dL_law_417 rfl ?_
            refine W.lcmp hx hb dL_law_418 ?_
            refine lv_if_eq (tgt := 424) hx hb dL_law_419 (by decide) (fun hc => ?_) (fun hc => ?_)
            · replace h := mi_pos hc h
              refine lv_goto (tgt := 1589) hx hb dL_law_424 (by decide) ?_
              refine lv_iinc (v := (x4 + 4)) (lv' := [(4, .int (x4 + 4)), (6, .int r391), (5, .int r373), (0, .ref b), (1, .ref (K.2.2.2 0)), (2, .ref (K.2.2.2 40)), (3, .ref (K.2.2.2 55))]) hx hb dL_law_1589 hl (k := 6) rfl rfl (by decide) rfl (fun ls hl => ?_)
              refine lv_goto (tgt := 23) hx hb dL_law_1592 (by decide) ?_
              refine W.widen (k := ce + 8) (n := sl + 48) (by omega) (by omega) ?_
              exact ih _ _ _ _ (by omega) (by omega) h kk _ _ _ (lv_sub hl [3, 4, 5, 6, 0] rfl) hH
            · replace h := mi_neg hc h
              refine lv_iconst (v := 0) hx hb dL_law_422 (by decide) ?_
              cases h
        · replace h := mi_neg hc h
          refine lv_iconst (v := 0) hx hb dL_law_405 (by decide) ?_
          cases h
      have hk3 := hk
      clear hk
      replace h := mi_neg hk3 h
      by_cases hk : ((xs x4.toNatClampNeg) &&& (31 : Int32)) = 4
      · replace h := mi_pos hk h
        rw [hk]
        refine lv_tableIn (tgt := 427) hx hb dL_law_39 (by decide) (by decide) rfl (by decide) ?_
        refine lv_aload_n hx hb dL_law_427 rfl (lv_at hl 1 rfl) ?_
        refine lv_aload_n hx hb dL_law_428 rfl (lv_at hl 0 rfl) ?_
        refine lv_iload hx hb dL_law_429 (lv_at hl 4 rfl) ?_
        refine lv_iconst (v := 1) hx hb dL_law_431 (by decide) ?_
        refine lv_iadd hx hb dL_law_432 ?_
        obtain ⟨hi14, h⟩ := mi_chk h
        refine va_sld hx hb hX hbl hbA hH.2.2 hi14 dL_law_433 ?_
        refine lv_aload_n hx hb dL_law_434 rfl (lv_at hl 3 rfl) ?_
        obtain ⟨r435, σ435, h435, h⟩ := mi_b2 h
        refine fm_ciW (vx_runSW (As := [.ref (K.2.2.2 0), .int (xs (x4 + (1 : Int32)).toNatClampNeg), .ref (K.2.2.2 55)]) (rest := []) C (kL_setRange l K hfl h435 _) (vx_cwSW 3 hts gL_law_L_setRange rfl rfl rfl (by decide +kernel) ⟨(Nat.le_of_ble_eq_true rfl), (Nat.le_of_ble_eq_true rfl)⟩) ⟨fm_blind, fm_pre hst hA hH⟩ rfl rfl hl.1 rfl (lv_room (Nat.le_of_ble_eq_true rfl)) dL_law_435 ⟨by show _ ≤ 630926; omega, by show _ ≤ 7203325; omega⟩) hA hH (fun H locs hH => ?_)
        refine W.widen (k := ce + 1) (n := sl + 6) (by omega) (by omega) ?_
        refine lv_istore (lv' := [(5, .int r435), (0, .ref b), (1, .ref (K.2.2.2 0)), (2, .ref (K.2.2.2 40)), (3, .ref (K.2.2.2 55)), (4, .int x4)]) hx hb dL_law_438 hl (by decide) rfl (fun ls hl => ?_)
        refine lv_aload_n hx hb dL_law_440 rfl (lv_at hl 3 rfl) ?_
        refine lv_aload_n hx hb dL_law_441 rfl (lv_at hl 1 rfl) ?_
        refine lv_iload hx hb dL_law_442 (lv_at hl 5 rfl) ?_
        refine lv_iconst (v := 1) hx hb dL_law_444 (by decide) ?_
        refine lv_iadd hx hb dL_law_445 ?_
        refine va_sld hx hb hX hbl hbA hH.2.2 hi14 dL_law_446 ?_
        obtain ⟨r447, σ447, h447, h⟩ := mi_b2 h
        refine fm_ci (va_runV (As := [.int (xs (x4 + (1 : Int32)).toNatClampNeg)]) (rest := []) C (kX5_setRange l K h447 _) (cwV 1 hts gL_law_X5_setRange rfl rfl rfl (by decide +kernel) ⟨(Nat.le_of_ble_eq_true rfl), (Nat.le_of_ble_eq_true rfl)⟩) ⟨fm_blind, fm_recv hst hH (q := 40) (by decide) rfl (fm_ob_40 _ _) rfl, fm_pre hst hA hH⟩ rfl rfl hl.1 rfl (lv_room (Nat.le_of_ble_eq_true rfl)) dL_law_447 ⟨by show _ ≤ 630926; omega, by show _ ≤ 7203325; omega⟩) hA hH (fun H locs hH => ?_)
        refine lv_istore (lv' := [(6, .int r447), (5, .int r435), (0, .ref b), (1, .ref (K.2.2.2 0)), (2, .ref (K.2.2.2 40)), (3, .ref (K.2.2.2 55)), (4, .int x4)]) hx hb dL_law_450 hl (by decide) rfl (fun ls hl => ?_)
        refine lv_aload_n hx hb dL_law_452 rfl (lv_at hl 4 rfl) ?_
        obtain ⟨r453, h453, h⟩ := mi_b1 h
        refine fm_ci (va_runV (As := []) (rest := []) C (kX5_thrown l K h453 _) (cwV 0 hts gL_law_X5_thrown rfl rfl rfl (by decide +kernel) ⟨(Nat.le_of_ble_eq_true rfl), (Nat.le_of_ble_eq_true rfl)⟩) ⟨fm_blind, fm_recv hst hH (q := 40) (by decide) rfl (fm_ob_40 _ _) rfl, fm_pre hst hA hH⟩ rfl rfl hl.1 rfl (lv_room (Nat.le_of_ble_eq_true rfl)) dL_law_453 ⟨by show _ ≤ 630926; omega, by show _ ≤ 7203325; omega⟩) hA hH (fun H locs hH => ?_)
        refine lv_iload hx hb dL_law_456 (lv_at hl 1 rfl) ?_
        refine lv_icmp_eq (tgt := 463) hx hb dL_law_458 (by decide) (fun hc => ?_) (fun hc => ?_)
        · replace h := mi_pos hc h
          refine lv_iload hx hb dL_law_463 (lv_at hl 1 rfl) ?_
          refine lv_if_ne (tgt := 480) hx hb dL_law_465 (by decide) (fun hc => ?_) (fun hc => ?_)
          · replace h := mi_neg hc h
            refine lv_goto (tgt := 1589) hx hb dL_law_480 (by decide) ?_
            refine lv_iinc (v := (x4 + 4)) (lv' := [(4, .int (x4 + 4)), (6, .int r447), (5, .int r435), (0, .ref b), (1, .ref (K.2.2.2 0)), (2, .ref (K.2.2.2 40)), (3, .ref (K.2.2.2 55))]) hx hb dL_law_1589 hl (k := 6) rfl rfl (by decide) rfl (fun ls hl => ?_)
            refine lv_goto (tgt := 23) hx hb dL_law_1592 (by decide) ?_
            refine W.widen (k := ce + 8) (n := sl + 48) (by omega) (by omega) ?_
            exact ih _ _ _ _ (by omega) (by omega) h kk _ _ _ (lv_sub hl [3, 4, 5, 6, 0] rfl) hH
          · replace h := mi_pos hc h
            refine lv_aload_n hx hb dL_law_468 rfl (lv_at hl 5 rfl) ?_
            refine lv_iconst (v := 0) hx hb dL_law_469 (by decide) ?_
            obtain ⟨hi15, h⟩ := mi_chk h
            refine fm_lld hx hb hst.1 hH 55 (by decide) rfl rfl hi15 dL_law_470 ?_
            refine lv_iload hx hb dL_law_471 (lv_at hl 0 rfl) ?_
            refine lv_i2l (v := r447.toInt64) hx hb dL_law_473 rfl ?_
            refine W.lcmp hx hb dL_law_474 ?_
            refine lv_if_eq (tgt := 480) hx hb dL_law_475 (by decide) (fun hc => ?_) (fun hc => ?_)
            · replace h := mi_pos hc h
              refine lv_goto (tgt := 1589) hx hb dL_law_480 (by decide) ?_
              refine lv_iinc (v := (x4 + 4)) (lv' := [(4, .int (x4 + 4)), (6, .int r447), (5, .int r435), (0, .ref b), (1, .ref (K.2.2.2 0)), (2, .ref (K.2.2.2 40)), (3, .ref (K.2.2.2 55))]) hx hb dL_law_1589 hl (k := 6) rfl rfl (by decide) rfl (fun ls hl => ?_)
              refine lv_goto (tgt := 23) hx hb dL_law_1592 (by decide) ?_
              refine W.widen (k := ce + 8) (n := sl + 48) (by omega) (by omega) ?_
              exact ih _ _ _ _ (by omega) (by omega) h kk _ _ _ (lv_sub hl [3, 4, 5, 6, 0] rfl) hH
            · replace h := mi_neg hc h
              refine lv_iconst (v := 0) hx hb dL_law_478 (by decide) ?_
              cases h
        · replace h := mi_neg hc h
          refine lv_iconst (v := 0) hx hb dL_law_461 (by decide) ?_
          cases h
      have hk4 := hk
      clear hk
      replace h := mi_neg hk4 h
      by_cases hk : ((xs x4.toNatClampNeg) &&& (31 : Int32)) = 5
      · replace h := mi_pos hk h
        rw [hk]
        refine lv_tableIn (tgt := 483) hx hb dL_law_39 (by decide) (by decide) rfl (by decide) ?_
        refine lv_aload_n hx hb dL_law_483 rfl (lv_at hl 1 rfl) ?_
        refine lv_aload_n hx hb dL_law_484 rfl (lv_at hl 0 rfl) ?_
        refine lv_iload hx hb dL_law_485 (lv_at hl 4 rfl) ?_
        refine lv_iconst (v := 1) hx hb dL_law_487 (by decide) ?_
        refine lv_iadd hx hb dL_law_488 ?_
        obtain ⟨hi16, h⟩ := mi_chk h
        refine va_sld hx hb hX hbl hbA hH.2.2 hi16 dL_law_489 ?_
        refine lv_aload_n hx hb dL_law_490 rfl (lv_at hl 0 rfl) ?_
        refine lv_iload hx hb dL_law_491 (lv_at hl 4 rfl) ?_
        refine lv_iconst (v := 2) hx hb dL_law_493 (by decide) ?_
        refine lv_iadd hx hb dL_law_494 ?_
        obtain ⟨hi17, h⟩ := mi_chk h
        refine va_sld hx hb hX hbl hbA hH.2.2 hi17 dL_law_495 ?_
        refine lv_aload_n hx hb dL_law_496 rfl (lv_at hl 3 rfl) ?_
        obtain ⟨r497, σ497, h497, h⟩ := mi_b2 h
        refine fm_ciW (vx_runSW (As := [.ref (K.2.2.2 0), .int (xs (x4 + (1 : Int32)).toNatClampNeg), .int (xs (x4 + (2 : Int32)).toNatClampNeg), .ref (K.2.2.2 55)]) (rest := []) C (kL_block l K hfl h497 _) (vx_cwSW 4 hts gL_law_L_block rfl rfl rfl (by decide +kernel) ⟨(Nat.le_of_ble_eq_true rfl), (Nat.le_of_ble_eq_true rfl)⟩) ⟨fm_blind, fm_pre hst hA hH⟩ rfl rfl hl.1 rfl (lv_room (Nat.le_of_ble_eq_true rfl)) dL_law_497 ⟨by show _ ≤ 630926; omega, by show _ ≤ 7203325; omega⟩) hA hH (fun H locs hH => ?_)
        refine W.widen (k := ce + 3) (n := sl + 18) (by omega) (by omega) ?_
        refine lv_istore (lv' := [(5, .int r497), (0, .ref b), (1, .ref (K.2.2.2 0)), (2, .ref (K.2.2.2 40)), (3, .ref (K.2.2.2 55)), (4, .int x4)]) hx hb dL_law_500 hl (by decide) rfl (fun ls hl => ?_)
        refine lv_aload_n hx hb dL_law_502 rfl (lv_at hl 3 rfl) ?_
        refine lv_aload_n hx hb dL_law_503 rfl (lv_at hl 1 rfl) ?_
        refine lv_iload hx hb dL_law_504 (lv_at hl 5 rfl) ?_
        refine lv_iconst (v := 1) hx hb dL_law_506 (by decide) ?_
        refine lv_iadd hx hb dL_law_507 ?_
        refine va_sld hx hb hX hbl hbA hH.2.2 hi16 dL_law_508 ?_
        refine lv_aload_n hx hb dL_law_509 rfl (lv_at hl 1 rfl) ?_
        refine lv_iload hx hb dL_law_510 (lv_at hl 5 rfl) ?_
        refine lv_iconst (v := 2) hx hb dL_law_512 (by decide) ?_
        refine lv_iadd hx hb dL_law_513 ?_
        refine va_sld hx hb hX hbl hbA hH.2.2 hi17 dL_law_514 ?_
        obtain ⟨r515, σ515, h515, h⟩ := mi_b2 h
        refine fm_ci (va_runV (As := [.int (xs (x4 + (1 : Int32)).toNatClampNeg), .int (xs (x4 + (2 : Int32)).toNatClampNeg)]) (rest := []) C (kX5_block l K h515 _) (cwV 2 hts gL_law_X5_block rfl rfl rfl (by decide +kernel) ⟨(Nat.le_of_ble_eq_true rfl), (Nat.le_of_ble_eq_true rfl)⟩) ⟨fm_blind, fm_recv hst hH (q := 40) (by decide) rfl (fm_ob_40 _ _) rfl, fm_pre hst hA hH⟩ rfl rfl hl.1 rfl (lv_room (Nat.le_of_ble_eq_true rfl)) dL_law_515 ⟨by show _ ≤ 630926; omega, by show _ ≤ 7203325; omega⟩) hA hH (fun H locs hH => ?_)
        refine lv_istore (lv' := [(6, .int r515), (5, .int r497), (0, .ref b), (1, .ref (K.2.2.2 0)), (2, .ref (K.2.2.2 40)), (3, .ref (K.2.2.2 55)), (4, .int x4)]) hx hb dL_law_518 hl (by decide) rfl (fun ls hl => ?_)
        refine lv_aload_n hx hb dL_law_520 rfl (lv_at hl 4 rfl) ?_
        obtain ⟨r521, h521, h⟩ := mi_b1 h
        refine fm_ci (va_runV (As := []) (rest := []) C (kX5_thrown l K h521 _) (cwV 0 hts gL_law_X5_thrown rfl rfl rfl (by decide +kernel) ⟨(Nat.le_of_ble_eq_true rfl), (Nat.le_of_ble_eq_true rfl)⟩) ⟨fm_blind, fm_recv hst hH (q := 40) (by decide) rfl (fm_ob_40 _ _) rfl, fm_pre hst hA hH⟩ rfl rfl hl.1 rfl (lv_room (Nat.le_of_ble_eq_true rfl)) dL_law_521 ⟨by show _ ≤ 630926; omega, by show _ ≤ 7203325; omega⟩) hA hH (fun H locs hH => ?_)
        refine lv_iload hx hb dL_law_524 (lv_at hl 1 rfl) ?_
        refine lv_icmp_eq (tgt := 531) hx hb dL_law_526 (by decide) (fun hc => ?_) (fun hc => ?_)
        · replace h := mi_pos hc h
          refine lv_iload hx hb dL_law_531 (lv_at hl 1 rfl) ?_
          refine lv_if_ne (tgt := 555) hx hb dL_law_533 (by decide) (fun hc => ?_) (fun hc => ?_)
          · replace h := mi_neg hc h
            refine lv_goto (tgt := 1589) hx hb dL_law_555 (by decide) ?_
            refine lv_iinc (v := (x4 + 4)) (lv' := [(4, .int (x4 + 4)), (6, .int r515), (5, .int r497), (0, .ref b), (1, .ref (K.2.2.2 0)), (2, .ref (K.2.2.2 40)), (3, .ref (K.2.2.2 55))]) hx hb dL_law_1589 hl (k := 6) rfl rfl (by decide) rfl (fun ls hl => ?_)
            refine lv_goto (tgt := 23) hx hb dL_law_1592 (by decide) ?_
            refine W.widen (k := ce + 8) (n := sl + 48) (by omega) (by omega) ?_
            exact ih _ _ _ _ (by omega) (by omega) h kk _ _ _ (lv_sub hl [3, 4, 5, 6, 0] rfl) hH
          · replace h := mi_pos hc h
            refine lv_aload_n hx hb dL_law_536 rfl (lv_at hl 5 rfl) ?_
            refine lv_iconst (v := 0) hx hb dL_law_537 (by decide) ?_
            obtain ⟨hi18, h⟩ := mi_chk h
            refine fm_lld hx hb hst.1 hH 55 (by decide) rfl rfl hi18 dL_law_538 ?_
            refine lv_iload hx hb dL_law_539 (lv_at hl 0 rfl) ?_
            obtain ⟨v19_0, hd, h2⟩ := mi_b1 h
            have kj : ∀ (ls : Array Slot) (H : Heap) (locs : List Loc), lv_has ls 7 [(0, .ref b), (1, .ref (K.2.2.2 0)), (2, .ref (K.2.2.2 40)), (3, .ref (K.2.2.2 55)), (4, .int x4)] → fm_H K σ515 A s H locs → W p l e room_1 s m args below meth c H locs (ce + 3) (sl + 18) Q (F0 m 549 ls [.long v19_0, .long (rL σ515 55 (0 : Int32))]) := by
              clear h hd
              intro ls H locs hl hH
              have h := h2
              clear h2
              refine W.lcmp hx hb dL_law_549 ?_
              refine lv_if_eq (tgt := 555) hx hb dL_law_550 (by decide) (fun hc => ?_) (fun hc => ?_)
              · replace h := mi_pos hc h
                refine lv_goto (tgt := 1589) hx hb dL_law_555 (by decide) ?_
                refine lv_iinc (v := (x4 + 4)) (lv' := [(4, .int (x4 + 4)), (0, .ref b), (1, .ref (K.2.2.2 0)), (2, .ref (K.2.2.2 40)), (3, .ref (K.2.2.2 55))]) hx hb dL_law_1589 hl (k := 4) rfl rfl (by decide) rfl (fun ls hl => ?_)
                refine lv_goto (tgt := 23) hx hb dL_law_1592 (by decide) ?_
                refine W.widen (k := ce + 8) (n := sl + 48) (by omega) (by omega) ?_
                exact ih _ _ _ _ (by omega) (by omega) h kk _ _ _ (lv_sub hl [1, 2, 3, 4, 0] rfl) hH
              · replace h := mi_neg hc h
                refine lv_iconst (v := 0) hx hb dL_law_553 (by decide) ?_
                cases h
            replace h := hd
            clear h2 hd
            refine lv_if_eq (tgt := 548) hx hb dL_law_541 (by decide) (fun hc => ?_) (fun hc => ?_)
            · replace h := mi_pos hc h
              refine lv_lconst (v := 0) hx hb dL_law_548 (by decide) ?_
              cases h
              exact kj _ _ _ (lv_sub hl [2, 3, 4, 5, 6] rfl) hH
            · replace h := mi_neg hc h
              refine lv_lconst (v := 1) hx hb dL_law_544 (by decide) ?_
              refine lv_goto (tgt := 549) hx hb dL_law_545 (by decide) ?_
              cases h
              exact kj _ _ _ (lv_sub hl [2, 3, 4, 5, 6] rfl) hH
        · replace h := mi_neg hc h
          refine lv_iconst (v := 0) hx hb dL_law_529 (by decide) ?_
          cases h
      have hk5 := hk
      clear hk
      replace h := mi_neg hk5 h
      by_cases hk : ((xs x4.toNatClampNeg) &&& (31 : Int32)) = 6
      · replace h := mi_pos hk h
        rw [hk]
        refine lv_tableIn (tgt := 558) hx hb dL_law_39 (by decide) (by decide) rfl (by decide) ?_
        refine lv_aload_n hx hb dL_law_558 rfl (lv_at hl 1 rfl) ?_
        obtain ⟨r559, h559, h⟩ := mi_b1 h
        refine fm_ci (va_runV (As := []) (rest := []) C (kX4_members l K h559 _) (cwV 0 hts gL_law_X4_members rfl rfl rfl (by decide +kernel) ⟨(Nat.le_of_ble_eq_true rfl), (Nat.le_of_ble_eq_true rfl)⟩) ⟨fm_blind, fm_recv hst hH (q := 0) (by decide) rfl (fm_ob_0 _ _) rfl, fm_pre hst hA hH⟩ rfl rfl hl.1 rfl (lv_room (Nat.le_of_ble_eq_true rfl)) dL_law_559 ⟨by show _ ≤ 630926; omega, by show _ ≤ 7203325; omega⟩) hA hH (fun H locs hH => ?_)
        refine lv_aload_n hx hb dL_law_562 rfl (lv_at hl 2 rfl) ?_
        obtain ⟨r563, σ563, h563, h⟩ := mi_b2 h
        refine fm_ci (va_runV (As := []) (rest := [.int r559]) C (kX5_members l K h563 _) (cwV 0 hts gL_law_X5_members rfl rfl rfl (by decide +kernel) ⟨(Nat.le_of_ble_eq_true rfl), (Nat.le_of_ble_eq_true rfl)⟩) ⟨fm_blind, fm_recv hst hH (q := 40) (by decide) rfl (fm_ob_40 _ _) rfl, fm_pre hst hA hH⟩ rfl rfl hl.1 rfl (lv_room (Nat.le_of_ble_eq_true rfl)) dL_law_563 ⟨by show _ ≤ 630926; omega, by show _ ≤ 7203325; omega⟩) hA hH (fun H locs hH => ?_)
        refine lv_icmp_eq (tgt := 1589) hx hb dL_law_566 (by decide) (fun hc => ?_) (fun hc => ?_)
        · replace h := mi_pos hc h
          refine lv_iinc (v := (x4 + 4)) (lv' := [(4, .int (x4 + 4)), (0, .ref b), (1, .ref (K.2.2.2 0)), (2, .ref (K.2.2.2 40)), (3, .ref (K.2.2.2 55))]) hx hb dL_law_1589 hl (k := 4) rfl rfl (by decide) rfl (fun ls hl => ?_)
          refine lv_goto (tgt := 23) hx hb dL_law_1592 (by decide) ?_
          refine W.widen (k := ce + 8) (n := sl + 48) (by omega) (by omega) ?_
          exact ih _ _ _ _ (by omega) (by omega) h kk _ _ _ (lv_sub hl [1, 2, 3, 4, 0] rfl) hH
        · replace h := mi_neg hc h
          refine lv_iconst (v := 0) hx hb dL_law_569 (by decide) ?_
          cases h
      have hk6 := hk
      clear hk
      replace h := mi_neg hk6 h
      by_cases hk : ((xs x4.toNatClampNeg) &&& (31 : Int32)) = 7
      · replace h := mi_pos hk h
        rw [hk]
        refine lv_tableIn (tgt := 571) hx hb dL_law_39 (by decide) (by decide) rfl (by decide) ?_
        refine lv_aload_n hx hb dL_law_571 rfl (lv_at hl 1 rfl) ?_
        refine lv_aload_n hx hb dL_law_572 rfl (lv_at hl 0 rfl) ?_
        refine lv_iload hx hb dL_law_573 (lv_at hl 4 rfl) ?_
        refine lv_iconst (v := 1) hx hb dL_law_575 (by decide) ?_
        refine lv_iadd hx hb dL_law_576 ?_
        obtain ⟨hi20, h⟩ := mi_chk h
        refine va_sld hx hb hX hbl hbA hH.2.2 hi20 dL_law_577 ?_
        refine lv_aload_n hx hb dL_law_578 rfl (lv_at hl 3 rfl) ?_
        obtain ⟨r579, σ579, h579, h⟩ := mi_b2 h
        refine fm_ciW (vx_runSW (As := [.ref (K.2.2.2 0), .int (xs (x4 + (1 : Int32)).toNatClampNeg), .ref (K.2.2.2 55)]) (rest := []) C (kL_xOf l K hfl h579 _) (vx_cwSW 3 hts gL_law_L_xOf rfl rfl rfl (by decide +kernel) ⟨(Nat.le_of_ble_eq_true rfl), (Nat.le_of_ble_eq_true rfl)⟩) ⟨fm_blind, fm_pre hst hA hH⟩ rfl rfl hl.1 rfl (lv_room (Nat.le_of_ble_eq_true rfl)) dL_law_579 ⟨by show _ ≤ 630926; omega, by show _ ≤ 7203325; omega⟩) hA hH (fun H locs hH => ?_)
        refine W.widen (k := ce + 1) (n := sl + 6) (by omega) (by omega) ?_
        refine lv_istore (lv' := [(5, .int r579), (0, .ref b), (1, .ref (K.2.2.2 0)), (2, .ref (K.2.2.2 40)), (3, .ref (K.2.2.2 55)), (4, .int x4)]) hx hb dL_law_582 hl (by decide) rfl (fun ls hl => ?_)
        refine lv_aload_n hx hb dL_law_584 rfl (lv_at hl 3 rfl) ?_
        refine lv_aload_n hx hb dL_law_585 rfl (lv_at hl 1 rfl) ?_
        refine lv_iload hx hb dL_law_586 (lv_at hl 5 rfl) ?_
        refine lv_iconst (v := 1) hx hb dL_law_588 (by decide) ?_
        refine lv_iadd hx hb dL_law_589 ?_
        refine va_sld hx hb hX hbl hbA hH.2.2 hi20 dL_law_590 ?_
        obtain ⟨r591, σ591, h591, h⟩ := mi_b2 h
        refine fm_ci (va_runV (As := [.int (xs (x4 + (1 : Int32)).toNatClampNeg)]) (rest := []) C (kX5_xOf l K h591 _) (cwV 1 hts gL_law_X5_xOf rfl rfl rfl (by decide +kernel) ⟨(Nat.le_of_ble_eq_true rfl), (Nat.le_of_ble_eq_true rfl)⟩) ⟨fm_blind, fm_recv hst hH (q := 40) (by decide) rfl (fm_ob_40 _ _) rfl, fm_pre hst hA hH⟩ rfl rfl hl.1 rfl (lv_room (Nat.le_of_ble_eq_true rfl)) dL_law_591 ⟨by show _ ≤ 630926; omega, by show _ ≤ 7203325; omega⟩) hA hH (fun H locs hH => ?_)
        refine lv_istore (lv' := [(6, .int r591), (5, .int r579), (0, .ref b), (1, .ref (K.2.2.2 0)), (2, .ref (K.2.2.2 40)), (3, .ref (K.2.2.2 55)), (4, .int x4)]) hx hb dL_law_594 hl (by decide) rfl (fun ls hl => ?_)
        refine lv_aload_n hx hb dL_law_596 rfl (lv_at hl 4 rfl) ?_
        obtain ⟨r597, h597, h⟩ := mi_b1 h
        refine fm_ci (va_runV (As := []) (rest := []) C (kX5_thrown l K h597 _) (cwV 0 hts gL_law_X5_thrown rfl rfl rfl (by decide +kernel) ⟨(Nat.le_of_ble_eq_true rfl), (Nat.le_of_ble_eq_true rfl)⟩) ⟨fm_blind, fm_recv hst hH (q := 40) (by decide) rfl (fm_ob_40 _ _) rfl, fm_pre hst hA hH⟩ rfl rfl hl.1 rfl (lv_room (Nat.le_of_ble_eq_true rfl)) dL_law_597 ⟨by show _ ≤ 630926; omega, by show _ ≤ 7203325; omega⟩) hA hH (fun H locs hH => ?_)
        refine lv_iload hx hb dL_law_600 (lv_at hl 1 rfl) ?_
        refine lv_icmp_eq (tgt := 607) hx hb dL_law_602 (by decide) (fun hc => ?_) (fun hc => ?_)
        · replace h := mi_pos hc h
          refine lv_iload hx hb dL_law_607 (lv_at hl 1 rfl) ?_
          refine lv_if_ne (tgt := 624) hx hb dL_law_609 (by decide) (fun hc => ?_) (fun hc => ?_)
          · replace h := mi_neg hc h
            refine lv_goto (tgt := 1589) hx hb dL_law_624 (by decide) ?_
            refine lv_iinc (v := (x4 + 4)) (lv' := [(4, .int (x4 + 4)), (6, .int r591), (5, .int r579), (0, .ref b), (1, .ref (K.2.2.2 0)), (2, .ref (K.2.2.2 40)), (3, .ref (K.2.2.2 55))]) hx hb dL_law_1589 hl (k := 6) rfl rfl (by decide) rfl (fun ls hl => ?_)
            refine lv_goto (tgt := 23) hx hb dL_law_1592 (by decide) ?_
            refine W.widen (k := ce + 8) (n := sl + 48) (by omega) (by omega) ?_
            exact ih _ _ _ _ (by omega) (by omega) h kk _ _ _ (lv_sub hl [3, 4, 5, 6, 0] rfl) hH
          · replace h := mi_pos hc h
            refine lv_aload_n hx hb dL_law_612 rfl (lv_at hl 5 rfl) ?_
            refine lv_iconst (v := 0) hx hb dL_law_613 (by decide) ?_
            obtain ⟨hi21, h⟩ := mi_chk h
            refine fm_lld hx hb hst.1 hH 55 (by decide) rfl rfl hi21 dL_law_614 ?_
            refine lv_iload hx hb dL_law_615 (lv_at hl 0 rfl) ?_
            refine lv_i2l (v := r591.toInt64) hx hb dL_law_617 rfl ?_
            refine W.lcmp hx hb dL_law_618 ?_
            refine lv_if_eq (tgt := 624) hx hb dL_law_619 (by decide) (fun hc => ?_) (fun hc => ?_)
            · replace h := mi_pos hc h
              refine lv_goto (tgt := 1589) hx hb dL_law_624 (by decide) ?_
              refine lv_iinc (v := (x4 + 4)) (lv' := [(4, .int (x4 + 4)), (6, .int r591), (5, .int r579), (0, .ref b), (1, .ref (K.2.2.2 0)), (2, .ref (K.2.2.2 40)), (3, .ref (K.2.2.2 55))]) hx hb dL_law_1589 hl (k := 6) rfl rfl (by decide) rfl (fun ls hl => ?_)
              refine lv_goto (tgt := 23) hx hb dL_law_1592 (by decide) ?_
              refine W.widen (k := ce + 8) (n := sl + 48) (by omega) (by omega) ?_
              exact ih _ _ _ _ (by omega) (by omega) h kk _ _ _ (lv_sub hl [3, 4, 5, 6, 0] rfl) hH
            · replace h := mi_neg hc h
              refine lv_iconst (v := 0) hx hb dL_law_622 (by decide) ?_
              cases h
        · replace h := mi_neg hc h
          refine lv_iconst (v := 0) hx hb dL_law_605 (by decide) ?_
          cases h
      have hk7 := hk
      clear hk
      replace h := mi_neg hk7 h
      by_cases hk : ((xs x4.toNatClampNeg) &&& (31 : Int32)) = 8
      · replace h := mi_pos hk h
        rw [hk]
        refine lv_tableIn (tgt := 627) hx hb dL_law_39 (by decide) (by decide) rfl (by decide) ?_
        refine lv_aload_n hx hb dL_law_627 rfl (lv_at hl 1 rfl) ?_
        refine lv_aload_n hx hb dL_law_628 rfl (lv_at hl 0 rfl) ?_
        refine lv_iload hx hb dL_law_629 (lv_at hl 4 rfl) ?_
        refine lv_iconst (v := 1) hx hb dL_law_631 (by decide) ?_
        refine lv_iadd hx hb dL_law_632 ?_
        obtain ⟨hi22, h⟩ := mi_chk h
        refine va_sld hx hb hX hbl hbA hH.2.2 hi22 dL_law_633 ?_
        refine lv_aload_n hx hb dL_law_634 rfl (lv_at hl 3 rfl) ?_
        obtain ⟨r635, σ635, h635, h⟩ := mi_b2 h
        refine fm_ciW (vx_runSW (As := [.ref (K.2.2.2 0), .int (xs (x4 + (1 : Int32)).toNatClampNeg), .ref (K.2.2.2 55)]) (rest := []) C (kL_yOf l K hfl h635 _) (vx_cwSW 3 hts gL_law_L_yOf rfl rfl rfl (by decide +kernel) ⟨(Nat.le_of_ble_eq_true rfl), (Nat.le_of_ble_eq_true rfl)⟩) ⟨fm_blind, fm_pre hst hA hH⟩ rfl rfl hl.1 rfl (lv_room (Nat.le_of_ble_eq_true rfl)) dL_law_635 ⟨by show _ ≤ 630926; omega, by show _ ≤ 7203325; omega⟩) hA hH (fun H locs hH => ?_)
        refine W.widen (k := ce + 1) (n := sl + 6) (by omega) (by omega) ?_
        refine lv_istore (lv' := [(5, .int r635), (0, .ref b), (1, .ref (K.2.2.2 0)), (2, .ref (K.2.2.2 40)), (3, .ref (K.2.2.2 55)), (4, .int x4)]) hx hb dL_law_638 hl (by decide) rfl (fun ls hl => ?_)
        refine lv_aload_n hx hb dL_law_640 rfl (lv_at hl 3 rfl) ?_
        refine lv_aload_n hx hb dL_law_641 rfl (lv_at hl 1 rfl) ?_
        refine lv_iload hx hb dL_law_642 (lv_at hl 5 rfl) ?_
        refine lv_iconst (v := 1) hx hb dL_law_644 (by decide) ?_
        refine lv_iadd hx hb dL_law_645 ?_
        refine va_sld hx hb hX hbl hbA hH.2.2 hi22 dL_law_646 ?_
        obtain ⟨r647, σ647, h647, h⟩ := mi_b2 h
        refine fm_ci (va_runV (As := [.int (xs (x4 + (1 : Int32)).toNatClampNeg)]) (rest := []) C (kX5_yOf l K h647 _) (cwV 1 hts gL_law_X5_yOf rfl rfl rfl (by decide +kernel) ⟨(Nat.le_of_ble_eq_true rfl), (Nat.le_of_ble_eq_true rfl)⟩) ⟨fm_blind, fm_recv hst hH (q := 40) (by decide) rfl (fm_ob_40 _ _) rfl, fm_pre hst hA hH⟩ rfl rfl hl.1 rfl (lv_room (Nat.le_of_ble_eq_true rfl)) dL_law_647 ⟨by show _ ≤ 630926; omega, by show _ ≤ 7203325; omega⟩) hA hH (fun H locs hH => ?_)
        refine lv_istore (lv' := [(6, .int r647), (5, .int r635), (0, .ref b), (1, .ref (K.2.2.2 0)), (2, .ref (K.2.2.2 40)), (3, .ref (K.2.2.2 55)), (4, .int x4)]) hx hb dL_law_650 hl (by decide) rfl (fun ls hl => ?_)
        refine lv_aload_n hx hb dL_law_652 rfl (lv_at hl 4 rfl) ?_
        obtain ⟨r653, h653, h⟩ := mi_b1 h
        refine fm_ci (va_runV (As := []) (rest := []) C (kX5_thrown l K h653 _) (cwV 0 hts gL_law_X5_thrown rfl rfl rfl (by decide +kernel) ⟨(Nat.le_of_ble_eq_true rfl), (Nat.le_of_ble_eq_true rfl)⟩) ⟨fm_blind, fm_recv hst hH (q := 40) (by decide) rfl (fm_ob_40 _ _) rfl, fm_pre hst hA hH⟩ rfl rfl hl.1 rfl (lv_room (Nat.le_of_ble_eq_true rfl)) dL_law_653 ⟨by show _ ≤ 630926; omega, by show _ ≤ 7203325; omega⟩) hA hH (fun H locs hH => ?_)
        refine lv_iload hx hb dL_law_656 (lv_at hl 1 rfl) ?_
        refine lv_icmp_eq (tgt := 663) hx hb dL_law_658 (by decide) (fun hc => ?_) (fun hc => ?_)
        · replace h := mi_pos hc h
          refine lv_iload hx hb dL_law_663 (lv_at hl 1 rfl) ?_
          refine lv_if_ne (tgt := 680) hx hb dL_law_665 (by decide) (fun hc => ?_) (fun hc => ?_)
          · replace h := mi_neg hc h
            refine lv_goto (tgt := 1589) hx hb dL_law_680 (by decide) ?_
            refine lv_iinc (v := (x4 + 4)) (lv' := [(4, .int (x4 + 4)), (6, .int r647), (5, .int r635), (0, .ref b), (1, .ref (K.2.2.2 0)), (2, .ref (K.2.2.2 40)), (3, .ref (K.2.2.2 55))]) hx hb dL_law_1589 hl (k := 6) rfl rfl (by decide) rfl (fun ls hl => ?_)
            refine lv_goto (tgt := 23) hx hb dL_law_1592 (by decide) ?_
            refine W.widen (k := ce + 8) (n := sl + 48) (by omega) (by omega) ?_
            exact ih _ _ _ _ (by omega) (by omega) h kk _ _ _ (lv_sub hl [3, 4, 5, 6, 0] rfl) hH
          · replace h := mi_pos hc h
            refine lv_aload_n hx hb dL_law_668 rfl (lv_at hl 5 rfl) ?_
            refine lv_iconst (v := 0) hx hb dL_law_669 (by decide) ?_
            obtain ⟨hi23, h⟩ := mi_chk h
            refine fm_lld hx hb hst.1 hH 55 (by decide) rfl rfl hi23 dL_law_670 ?_
            refine lv_iload hx hb dL_law_671 (lv_at hl 0 rfl) ?_
            refine lv_i2l (v := r647.toInt64) hx hb dL_law_673 rfl ?_
            refine W.lcmp hx hb dL_law_674 ?_
            refine lv_if_eq (tgt := 680) hx hb dL_law_675 (by decide) (fun hc => ?_) (fun hc => ?_)
            · replace h := mi_pos hc h
              refine lv_goto (tgt := 1589) hx hb dL_law_680 (by decide) ?_
              refine lv_iinc (v := (x4 + 4)) (lv' := [(4, .int (x4 + 4)), (6, .int r647), (5, .int r635), (0, .ref b), (1, .ref (K.2.2.2 0)), (2, .ref (K.2.2.2 40)), (3, .ref (K.2.2.2 55))]) hx hb dL_law_1589 hl (k := 6) rfl rfl (by decide) rfl (fun ls hl => ?_)
              refine lv_goto (tgt := 23) hx hb dL_law_1592 (by decide) ?_
              refine W.widen (k := ce + 8) (n := sl + 48) (by omega) (by omega) ?_
              exact ih _ _ _ _ (by omega) (by omega) h kk _ _ _ (lv_sub hl [3, 4, 5, 6, 0] rfl) hH
            · replace h := mi_neg hc h
              refine lv_iconst (v := 0) hx hb dL_law_678 (by decide) ?_
              cases h
        · replace h := mi_neg hc h
          refine lv_iconst (v := 0) hx hb dL_law_661 (by decide) ?_
          cases h
      have hk8 := hk
      clear hk
      replace h := mi_neg hk8 h
      by_cases hk : ((xs x4.toNatClampNeg) &&& (31 : Int32)) = 9
      · replace h := mi_pos hk h
        rw [hk]
        refine lv_tableIn (tgt := 683) hx hb dL_law_39 (by decide) (by decide) rfl (by decide) ?_
        refine lv_aload_n hx hb dL_law_683 rfl (lv_at hl 1 rfl) ?_
        refine lv_aload_n hx hb dL_law_684 rfl (lv_at hl 0 rfl) ?_
        refine lv_iload hx hb dL_law_685 (lv_at hl 4 rfl) ?_
        refine lv_iconst (v := 1) hx hb dL_law_687 (by decide) ?_
        refine lv_iadd hx hb dL_law_688 ?_
        obtain ⟨hi24, h⟩ := mi_chk h
        refine va_sld hx hb hX hbl hbA hH.2.2 hi24 dL_law_689 ?_
        refine lv_aload_n hx hb dL_law_690 rfl (lv_at hl 0 rfl) ?_
        refine lv_iload hx hb dL_law_691 (lv_at hl 4 rfl) ?_
        refine lv_iconst (v := 2) hx hb dL_law_693 (by decide) ?_
        refine lv_iadd hx hb dL_law_694 ?_
        obtain ⟨hi25, h⟩ := mi_chk h
        refine va_sld hx hb hX hbl hbA hH.2.2 hi25 dL_law_695 ?_
        refine lv_aload_n hx hb dL_law_696 rfl (lv_at hl 3 rfl) ?_
        obtain ⟨r697, σ697, h697, h⟩ := mi_b2 h
        refine fm_ciW (vx_runSW (As := [.ref (K.2.2.2 0), .int (xs (x4 + (1 : Int32)).toNatClampNeg), .int (xs (x4 + (2 : Int32)).toNatClampNeg), .ref (K.2.2.2 55)]) (rest := []) C (kL_areLinked l K hfl h697 _) (vx_cwSW 4 hts gL_law_L_areLinked rfl rfl rfl (by decide +kernel) ⟨(Nat.le_of_ble_eq_true rfl), (Nat.le_of_ble_eq_true rfl)⟩) ⟨fm_blind, fm_pre hst hA hH⟩ rfl rfl hl.1 rfl (lv_room (Nat.le_of_ble_eq_true rfl)) dL_law_697 ⟨by show _ ≤ 630926; omega, by show _ ≤ 7203325; omega⟩) hA hH (fun H locs hH => ?_)
        refine W.widen (k := ce + 2) (n := sl + 12) (by omega) (by omega) ?_
        refine lv_istore (lv' := [(5, .int r697), (0, .ref b), (1, .ref (K.2.2.2 0)), (2, .ref (K.2.2.2 40)), (3, .ref (K.2.2.2 55)), (4, .int x4)]) hx hb dL_law_700 hl (by decide) rfl (fun ls hl => ?_)
        refine lv_aload_n hx hb dL_law_702 rfl (lv_at hl 3 rfl) ?_
        refine lv_aload_n hx hb dL_law_703 rfl (lv_at hl 1 rfl) ?_
        refine lv_iload hx hb dL_law_704 (lv_at hl 5 rfl) ?_
        refine lv_iconst (v := 1) hx hb dL_law_706 (by decide) ?_
        refine lv_iadd hx hb dL_law_707 ?_
        refine va_sld hx hb hX hbl hbA hH.2.2 hi24 dL_law_708 ?_
        refine lv_aload_n hx hb dL_law_709 rfl (lv_at hl 1 rfl) ?_
        refine lv_iload hx hb dL_law_710 (lv_at hl 5 rfl) ?_
        refine lv_iconst (v := 2) hx hb dL_law_712 (by decide) ?_
        refine lv_iadd hx hb dL_law_713 ?_
        refine va_sld hx hb hX hbl hbA hH.2.2 hi25 dL_law_714 ?_
        obtain ⟨r715, σ715, h715, h⟩ := mi_b2 h
        refine fm_ci (va_runV (As := [.int (xs (x4 + (1 : Int32)).toNatClampNeg), .int (xs (x4 + (2 : Int32)).toNatClampNeg)]) (rest := []) C (kX5_areLinked l K h715 _) (cwV 2 hts gL_law_X5_areLinked rfl rfl rfl (by decide +kernel) ⟨(Nat.le_of_ble_eq_true rfl), (Nat.le_of_ble_eq_true rfl)⟩) ⟨fm_blind, fm_recv hst hH (q := 40) (by decide) rfl (fm_ob_40 _ _) rfl, fm_pre hst hA hH⟩ rfl rfl hl.1 rfl (lv_room (Nat.le_of_ble_eq_true rfl)) dL_law_715 ⟨by show _ ≤ 630926; omega, by show _ ≤ 7203325; omega⟩) hA hH (fun H locs hH => ?_)
        refine lv_istore (lv' := [(6, .int r715), (5, .int r697), (0, .ref b), (1, .ref (K.2.2.2 0)), (2, .ref (K.2.2.2 40)), (3, .ref (K.2.2.2 55)), (4, .int x4)]) hx hb dL_law_718 hl (by decide) rfl (fun ls hl => ?_)
        refine lv_aload_n hx hb dL_law_720 rfl (lv_at hl 4 rfl) ?_
        obtain ⟨r721, h721, h⟩ := mi_b1 h
        refine fm_ci (va_runV (As := []) (rest := []) C (kX5_thrown l K h721 _) (cwV 0 hts gL_law_X5_thrown rfl rfl rfl (by decide +kernel) ⟨(Nat.le_of_ble_eq_true rfl), (Nat.le_of_ble_eq_true rfl)⟩) ⟨fm_blind, fm_recv hst hH (q := 40) (by decide) rfl (fm_ob_40 _ _) rfl, fm_pre hst hA hH⟩ rfl rfl hl.1 rfl (lv_room (Nat.le_of_ble_eq_true rfl)) dL_law_721 ⟨by show _ ≤ 630926; omega, by show _ ≤ 7203325; omega⟩) hA hH (fun H locs hH => ?_)
        refine lv_iload hx hb dL_law_724 (lv_at hl 1 rfl) ?_
        refine lv_icmp_eq (tgt := 731) hx hb dL_law_726 (by decide) (fun hc => ?_) (fun hc => ?_)
        · replace h := mi_pos hc h
          refine lv_iload hx hb dL_law_731 (lv_at hl 1 rfl) ?_
          refine lv_if_ne (tgt := 755) hx hb dL_law_733 (by decide) (fun hc => ?_) (fun hc => ?_)
          · replace h := mi_neg hc h
            refine lv_goto (tgt := 1589) hx hb dL_law_755 (by decide) ?_
            refine lv_iinc (v := (x4 + 4)) (lv' := [(4, .int (x4 + 4)), (6, .int r715), (5, .int r697), (0, .ref b), (1, .ref (K.2.2.2 0)), (2, .ref (K.2.2.2 40)), (3, .ref (K.2.2.2 55))]) hx hb dL_law_1589 hl (k := 6) rfl rfl (by decide) rfl (fun ls hl => ?_)
            refine lv_goto (tgt := 23) hx hb dL_law_1592 (by decide) ?_
            refine W.widen (k := ce + 8) (n := sl + 48) (by omega) (by omega) ?_
            exact ih _ _ _ _ (by omega) (by omega) h kk _ _ _ (lv_sub hl [3, 4, 5, 6, 0] rfl) hH
          · replace h := mi_pos hc h
            refine lv_aload_n hx hb dL_law_736 rfl (lv_at hl 5 rfl) ?_
            refine lv_iconst (v := 0) hx hb dL_law_737 (by decide) ?_
            obtain ⟨hi26, h⟩ := mi_chk h
            refine fm_lld hx hb hst.1 hH 55 (by decide) rfl rfl hi26 dL_law_738 ?_
            refine lv_iload hx hb dL_law_739 (lv_at hl 0 rfl) ?_
            obtain ⟨v27_0, hd, h2⟩ := mi_b1 h
            have kj : ∀ (ls : Array Slot) (H : Heap) (locs : List Loc), lv_has ls 7 [(0, .ref b), (1, .ref (K.2.2.2 0)), (2, .ref (K.2.2.2 40)), (3, .ref (K.2.2.2 55)), (4, .int x4)] → fm_H K σ715 A s H locs → W p l e room_1 s m args below meth c H locs (ce + 2) (sl + 12) Q (F0 m 749 ls [.long v27_0, .long (rL σ715 55 (0 : Int32))]) := by
              clear h hd
              intro ls H locs hl hH
              have h := h2
              clear h2
              refine W.lcmp hx hb dL_law_749 ?_
              refine lv_if_eq (tgt := 755) hx hb dL_law_750 (by decide) (fun hc => ?_) (fun hc => ?_)
              · replace h := mi_pos hc h
                refine lv_goto (tgt := 1589) hx hb dL_law_755 (by decide) ?_
                refine lv_iinc (v := (x4 + 4)) (lv' := [(4, .int (x4 + 4)), (0, .ref b), (1, .ref (K.2.2.2 0)), (2, .ref (K.2.2.2 40)), (3, .ref (K.2.2.2 55))]) hx hb dL_law_1589 hl (k := 4) rfl rfl (by decide) rfl (fun ls hl => ?_)
                refine lv_goto (tgt := 23) hx hb dL_law_1592 (by decide) ?_
                refine W.widen (k := ce + 8) (n := sl + 48) (by omega) (by omega) ?_
                exact ih _ _ _ _ (by omega) (by omega) h kk _ _ _ (lv_sub hl [1, 2, 3, 4, 0] rfl) hH
              · replace h := mi_neg hc h
                refine lv_iconst (v := 0) hx hb dL_law_753 (by decide) ?_
                cases h
            replace h := hd
            clear h2 hd
            refine lv_if_eq (tgt := 748) hx hb dL_law_741 (by decide) (fun hc => ?_) (fun hc => ?_)
            · replace h := mi_pos hc h
              refine lv_lconst (v := 0) hx hb dL_law_748 (by decide) ?_
              cases h
              exact kj _ _ _ (lv_sub hl [2, 3, 4, 5, 6] rfl) hH
            · replace h := mi_neg hc h
              refine lv_lconst (v := 1) hx hb dL_law_744 (by decide) ?_
              refine lv_goto (tgt := 749) hx hb dL_law_745 (by decide) ?_
              cases h
              exact kj _ _ _ (lv_sub hl [2, 3, 4, 5, 6] rfl) hH
        · replace h := mi_neg hc h
          refine lv_iconst (v := 0) hx hb dL_law_729 (by decide) ?_
          cases h
      have hk9 := hk
      clear hk
      replace h := mi_neg hk9 h
      by_cases hk : ((xs x4.toNatClampNeg) &&& (31 : Int32)) = 10
      · replace h := mi_pos hk h
        rw [hk]
        refine lv_tableIn (tgt := 758) hx hb dL_law_39 (by decide) (by decide) rfl (by decide) ?_
        refine lv_aload_n hx hb dL_law_758 rfl (lv_at hl 1 rfl) ?_
        obtain ⟨r759, σ759, h759, h⟩ := mi_b2 h
        refine fm_ci (va_runV (As := []) (rest := []) C (kX4_links l K h759 _) (cwV 0 hts gL_law_X4_links rfl rfl rfl (by decide +kernel) ⟨(Nat.le_of_ble_eq_true rfl), (Nat.le_of_ble_eq_true rfl)⟩) ⟨fm_blind, fm_recv hst hH (q := 0) (by decide) rfl (fm_ob_0 _ _) rfl, fm_pre hst hA hH⟩ rfl rfl hl.1 rfl (lv_room (Nat.le_of_ble_eq_true rfl)) dL_law_759 ⟨by show _ ≤ 630926; omega, by show _ ≤ 7203325; omega⟩) hA hH (fun H locs hH => ?_)
        refine lv_aload_n hx hb dL_law_762 rfl (lv_at hl 2 rfl) ?_
        obtain ⟨r763, σ763, h763, h⟩ := mi_b2 h
        refine fm_ci (va_runV (As := []) (rest := [.int r759]) C (kX5_links l K h763 _) (cwV 0 hts gL_law_X5_links rfl rfl rfl (by decide +kernel) ⟨(Nat.le_of_ble_eq_true rfl), (Nat.le_of_ble_eq_true rfl)⟩) ⟨fm_blind, fm_recv hst hH (q := 40) (by decide) rfl (fm_ob_40 _ _) rfl, fm_pre hst hA hH⟩ rfl rfl hl.1 rfl (lv_room (Nat.le_of_ble_eq_true rfl)) dL_law_763 ⟨by show _ ≤ 630926; omega, by show _ ≤ 7203325; omega⟩) hA hH (fun H locs hH => ?_)
        refine lv_icmp_eq (tgt := 1589) hx hb dL_law_766 (by decide) (fun hc => ?_) (fun hc => ?_)
        · replace h := mi_pos hc h
          refine lv_iinc (v := (x4 + 4)) (lv' := [(4, .int (x4 + 4)), (0, .ref b), (1, .ref (K.2.2.2 0)), (2, .ref (K.2.2.2 40)), (3, .ref (K.2.2.2 55))]) hx hb dL_law_1589 hl (k := 4) rfl rfl (by decide) rfl (fun ls hl => ?_)
          refine lv_goto (tgt := 23) hx hb dL_law_1592 (by decide) ?_
          refine W.widen (k := ce + 8) (n := sl + 48) (by omega) (by omega) ?_
          exact ih _ _ _ _ (by omega) (by omega) h kk _ _ _ (lv_sub hl [1, 2, 3, 4, 0] rfl) hH
        · replace h := mi_neg hc h
          refine lv_iconst (v := 0) hx hb dL_law_769 (by decide) ?_
          cases h
      have hk10 := hk
      clear hk
      replace h := mi_neg hk10 h
      by_cases hk : ((xs x4.toNatClampNeg) &&& (31 : Int32)) = 11
      · replace h := mi_pos hk h
        rw [hk]
        refine lv_tableIn (tgt := 771) hx hb dL_law_39 (by decide) (by decide) rfl (by decide) ?_
        refine lv_aload_n hx hb dL_law_771 rfl (lv_at hl 1 rfl) ?_
        refine lv_aload_n hx hb dL_law_772 rfl (lv_at hl 0 rfl) ?_
        refine lv_iload hx hb dL_law_773 (lv_at hl 4 rfl) ?_
        refine lv_iconst (v := 1) hx hb dL_law_775 (by decide) ?_
        refine lv_iadd hx hb dL_law_776 ?_
        obtain ⟨hi28, h⟩ := mi_chk h
        refine va_sld hx hb hX hbl hbA hH.2.2 hi28 dL_law_777 ?_
        refine lv_aload_n hx hb dL_law_778 rfl (lv_at hl 3 rfl) ?_
        obtain ⟨r779, σ779, h779, h⟩ := mi_b2 h
        refine fm_ciW (vx_runSW (As := [.ref (K.2.2.2 0), .int (xs (x4 + (1 : Int32)).toNatClampNeg), .ref (K.2.2.2 55)]) (rest := []) C (kL_degree l K hfl h779 _) (vx_cwSW 3 hts gL_law_L_degree rfl rfl rfl (by decide +kernel) ⟨(Nat.le_of_ble_eq_true rfl), (Nat.le_of_ble_eq_true rfl)⟩) ⟨fm_blind, fm_pre hst hA hH⟩ rfl rfl hl.1 rfl (lv_room (Nat.le_of_ble_eq_true rfl)) dL_law_779 ⟨by show _ ≤ 630926; omega, by show _ ≤ 7203325; omega⟩) hA hH (fun H locs hH => ?_)
        refine W.widen (k := ce + 1) (n := sl + 6) (by omega) (by omega) ?_
        refine lv_istore (lv' := [(5, .int r779), (0, .ref b), (1, .ref (K.2.2.2 0)), (2, .ref (K.2.2.2 40)), (3, .ref (K.2.2.2 55)), (4, .int x4)]) hx hb dL_law_782 hl (by decide) rfl (fun ls hl => ?_)
        refine lv_aload_n hx hb dL_law_784 rfl (lv_at hl 3 rfl) ?_
        refine lv_aload_n hx hb dL_law_785 rfl (lv_at hl 1 rfl) ?_
        refine lv_iload hx hb dL_law_786 (lv_at hl 5 rfl) ?_
        refine lv_iconst (v := 1) hx hb dL_law_788 (by decide) ?_
        refine lv_iadd hx hb dL_law_789 ?_
        refine va_sld hx hb hX hbl hbA hH.2.2 hi28 dL_law_790 ?_
        obtain ⟨r791, σ791, h791, h⟩ := mi_b2 h
        refine fm_ci (va_runV (As := [.int (xs (x4 + (1 : Int32)).toNatClampNeg)]) (rest := []) C (kX5_degree l K h791 _) (cwV 1 hts gL_law_X5_degree rfl rfl rfl (by decide +kernel) ⟨(Nat.le_of_ble_eq_true rfl), (Nat.le_of_ble_eq_true rfl)⟩) ⟨fm_blind, fm_recv hst hH (q := 40) (by decide) rfl (fm_ob_40 _ _) rfl, fm_pre hst hA hH⟩ rfl rfl hl.1 rfl (lv_room (Nat.le_of_ble_eq_true rfl)) dL_law_791 ⟨by show _ ≤ 630926; omega, by show _ ≤ 7203325; omega⟩) hA hH (fun H locs hH => ?_)
        refine lv_istore (lv' := [(6, .int r791), (5, .int r779), (0, .ref b), (1, .ref (K.2.2.2 0)), (2, .ref (K.2.2.2 40)), (3, .ref (K.2.2.2 55)), (4, .int x4)]) hx hb dL_law_794 hl (by decide) rfl (fun ls hl => ?_)
        refine lv_aload_n hx hb dL_law_796 rfl (lv_at hl 4 rfl) ?_
        obtain ⟨r797, h797, h⟩ := mi_b1 h
        refine fm_ci (va_runV (As := []) (rest := []) C (kX5_thrown l K h797 _) (cwV 0 hts gL_law_X5_thrown rfl rfl rfl (by decide +kernel) ⟨(Nat.le_of_ble_eq_true rfl), (Nat.le_of_ble_eq_true rfl)⟩) ⟨fm_blind, fm_recv hst hH (q := 40) (by decide) rfl (fm_ob_40 _ _) rfl, fm_pre hst hA hH⟩ rfl rfl hl.1 rfl (lv_room (Nat.le_of_ble_eq_true rfl)) dL_law_797 ⟨by show _ ≤ 630926; omega, by show _ ≤ 7203325; omega⟩) hA hH (fun H locs hH => ?_)
        refine lv_iload hx hb dL_law_800 (lv_at hl 1 rfl) ?_
        refine lv_icmp_eq (tgt := 807) hx hb dL_law_802 (by decide) (fun hc => ?_) (fun hc => ?_)
        · replace h := mi_pos hc h
          refine lv_iload hx hb dL_law_807 (lv_at hl 1 rfl) ?_
          refine lv_if_ne (tgt := 824) hx hb dL_law_809 (by decide) (fun hc => ?_) (fun hc => ?_)
          · replace h := mi_neg hc h
            refine lv_goto (tgt := 1589) hx hb dL_law_824 (by decide) ?_
            refine lv_iinc (v := (x4 + 4)) (lv' := [(4, .int (x4 + 4)), (6, .int r791), (5, .int r779), (0, .ref b), (1, .ref (K.2.2.2 0)), (2, .ref (K.2.2.2 40)), (3, .ref (K.2.2.2 55))]) hx hb dL_law_1589 hl (k := 6) rfl rfl (by decide) rfl (fun ls hl => ?_)
            refine lv_goto (tgt := 23) hx hb dL_law_1592 (by decide) ?_
            refine W.widen (k := ce + 8) (n := sl + 48) (by omega) (by omega) ?_
            exact ih _ _ _ _ (by omega) (by omega) h kk _ _ _ (lv_sub hl [3, 4, 5, 6, 0] rfl) hH
          · replace h := mi_pos hc h
            refine lv_aload_n hx hb dL_law_812 rfl (lv_at hl 5 rfl) ?_
            refine lv_iconst (v := 0) hx hb dL_law_813 (by decide) ?_
            obtain ⟨hi29, h⟩ := mi_chk h
            refine fm_lld hx hb hst.1 hH 55 (by decide) rfl rfl hi29 dL_law_814 ?_
            refine lv_iload hx hb dL_law_815 (lv_at hl 0 rfl) ?_
            refine lv_i2l (v := r791.toInt64) hx hb dL_law_817 rfl ?_
            refine W.lcmp hx hb dL_law_818 ?_
            refine lv_if_eq (tgt := 824) hx hb dL_law_819 (by decide) (fun hc => ?_) (fun hc => ?_)
            · replace h := mi_pos hc h
              refine lv_goto (tgt := 1589) hx hb dL_law_824 (by decide) ?_
              refine lv_iinc (v := (x4 + 4)) (lv' := [(4, .int (x4 + 4)), (6, .int r791), (5, .int r779), (0, .ref b), (1, .ref (K.2.2.2 0)), (2, .ref (K.2.2.2 40)), (3, .ref (K.2.2.2 55))]) hx hb dL_law_1589 hl (k := 6) rfl rfl (by decide) rfl (fun ls hl => ?_)
              refine lv_goto (tgt := 23) hx hb dL_law_1592 (by decide) ?_
              refine W.widen (k := ce + 8) (n := sl + 48) (by omega) (by omega) ?_
              exact ih _ _ _ _ (by omega) (by omega) h kk _ _ _ (lv_sub hl [3, 4, 5, 6, 0] rfl) hH
            · replace h := mi_neg hc h
              refine lv_iconst (v := 0) hx hb dL_law_822 (by decide) ?_
              cases h
        · replace h := mi_neg hc h
          refine lv_iconst (v := 0) hx hb dL_law_805 (by decide) ?_
          cases h
      have hk11 := hk
      clear hk
      replace h := mi_neg hk11 h
      by_cases hk : ((xs x4.toNatClampNeg) &&& (31 : Int32)) = 12
      · replace h := mi_pos hk h
        rw [hk]
        refine lv_tableIn (tgt := 827) hx hb dL_law_39 (by decide) (by decide) rfl (by decide) ?_
        refine lv_aload_n hx hb dL_law_827 rfl (lv_at hl 1 rfl) ?_
        obtain ⟨r828, σ828, h828, h⟩ := mi_b2 h
        refine fm_ci (va_runV (As := []) (rest := []) C (kX4_groups l K h828 _) (cwV 0 hts gL_law_X4_groups rfl rfl rfl (by decide +kernel) ⟨(Nat.le_of_ble_eq_true rfl), (Nat.le_of_ble_eq_true rfl)⟩) ⟨fm_blind, fm_recv hst hH (q := 0) (by decide) rfl (fm_ob_0 _ _) rfl, fm_pre hst hA hH⟩ rfl rfl hl.1 rfl (lv_room (Nat.le_of_ble_eq_true rfl)) dL_law_828 ⟨by show _ ≤ 630926; omega, by show _ ≤ 7203325; omega⟩) hA hH (fun H locs hH => ?_)
        refine lv_aload_n hx hb dL_law_831 rfl (lv_at hl 2 rfl) ?_
        obtain ⟨r832, σ832, h832, h⟩ := mi_b2 h
        refine fm_ci (va_runV (As := []) (rest := [.int r828]) C (kX5_groups l K h832 _) (cwV 0 hts gL_law_X5_groups rfl rfl rfl (by decide +kernel) ⟨(Nat.le_of_ble_eq_true rfl), (Nat.le_of_ble_eq_true rfl)⟩) ⟨fm_blind, fm_recv hst hH (q := 40) (by decide) rfl (fm_ob_40 _ _) rfl, fm_pre hst hA hH⟩ rfl rfl hl.1 rfl (lv_room (Nat.le_of_ble_eq_true rfl)) dL_law_832 ⟨by show _ ≤ 630926; omega, by show _ ≤ 7203325; omega⟩) hA hH (fun H locs hH => ?_)
        refine lv_icmp_eq (tgt := 1589) hx hb dL_law_835 (by decide) (fun hc => ?_) (fun hc => ?_)
        · replace h := mi_pos hc h
          refine lv_iinc (v := (x4 + 4)) (lv' := [(4, .int (x4 + 4)), (0, .ref b), (1, .ref (K.2.2.2 0)), (2, .ref (K.2.2.2 40)), (3, .ref (K.2.2.2 55))]) hx hb dL_law_1589 hl (k := 4) rfl rfl (by decide) rfl (fun ls hl => ?_)
          refine lv_goto (tgt := 23) hx hb dL_law_1592 (by decide) ?_
          refine W.widen (k := ce + 8) (n := sl + 48) (by omega) (by omega) ?_
          exact ih _ _ _ _ (by omega) (by omega) h kk _ _ _ (lv_sub hl [1, 2, 3, 4, 0] rfl) hH
        · replace h := mi_neg hc h
          refine lv_iconst (v := 0) hx hb dL_law_838 (by decide) ?_
          cases h
      have hk12 := hk
      clear hk
      replace h := mi_neg hk12 h
      by_cases hk : ((xs x4.toNatClampNeg) &&& (31 : Int32)) = 13
      · replace h := mi_pos hk h
        rw [hk]
        refine lv_tableIn (tgt := 840) hx hb dL_law_39 (by decide) (by decide) rfl (by decide) ?_
        refine lv_aload_n hx hb dL_law_840 rfl (lv_at hl 1 rfl) ?_
        refine lv_aload_n hx hb dL_law_841 rfl (lv_at hl 0 rfl) ?_
        refine lv_iload hx hb dL_law_842 (lv_at hl 4 rfl) ?_
        refine lv_iconst (v := 1) hx hb dL_law_844 (by decide) ?_
        refine lv_iadd hx hb dL_law_845 ?_
        obtain ⟨hi30, h⟩ := mi_chk h
        refine va_sld hx hb hX hbl hbA hH.2.2 hi30 dL_law_846 ?_
        refine lv_aload_n hx hb dL_law_847 rfl (lv_at hl 3 rfl) ?_
        obtain ⟨r848, σ848, h848, h⟩ := mi_b2 h
        refine fm_ciW (vx_runSW (As := [.ref (K.2.2.2 0), .int (xs (x4 + (1 : Int32)).toNatClampNeg), .ref (K.2.2.2 55)]) (rest := []) C (kL_leader l K hfl h848 _) (vx_cwSW 3 hts gL_law_L_leader rfl rfl rfl (by decide +kernel) ⟨(Nat.le_of_ble_eq_true rfl), (Nat.le_of_ble_eq_true rfl)⟩) ⟨fm_blind, fm_pre hst hA hH⟩ rfl rfl hl.1 rfl (lv_room (Nat.le_of_ble_eq_true rfl)) dL_law_848 ⟨by show _ ≤ 630926; omega, by show _ ≤ 7203325; omega⟩) hA hH (fun H locs hH => ?_)
        refine W.widen (k := ce + 1) (n := sl + 6) (by omega) (by omega) ?_
        refine lv_istore (lv' := [(5, .int r848), (0, .ref b), (1, .ref (K.2.2.2 0)), (2, .ref (K.2.2.2 40)), (3, .ref (K.2.2.2 55)), (4, .int x4)]) hx hb dL_law_851 hl (by decide) rfl (fun ls hl => ?_)
        refine lv_aload_n hx hb dL_law_853 rfl (lv_at hl 3 rfl) ?_
        refine lv_aload_n hx hb dL_law_854 rfl (lv_at hl 1 rfl) ?_
        refine lv_iload hx hb dL_law_855 (lv_at hl 5 rfl) ?_
        refine lv_iconst (v := 1) hx hb dL_law_857 (by decide) ?_
        refine lv_iadd hx hb dL_law_858 ?_
        refine va_sld hx hb hX hbl hbA hH.2.2 hi30 dL_law_859 ?_
        obtain ⟨r860, σ860, h860, h⟩ := mi_b2 h
        refine fm_ci (va_runV (As := [.int (xs (x4 + (1 : Int32)).toNatClampNeg)]) (rest := []) C (kX5_leader l K h860 _) (cwV 1 hts gL_law_X5_leader rfl rfl rfl (by decide +kernel) ⟨(Nat.le_of_ble_eq_true rfl), (Nat.le_of_ble_eq_true rfl)⟩) ⟨fm_blind, fm_recv hst hH (q := 40) (by decide) rfl (fm_ob_40 _ _) rfl, fm_pre hst hA hH⟩ rfl rfl hl.1 rfl (lv_room (Nat.le_of_ble_eq_true rfl)) dL_law_860 ⟨by show _ ≤ 630926; omega, by show _ ≤ 7203325; omega⟩) hA hH (fun H locs hH => ?_)
        refine lv_istore (lv' := [(6, .int r860), (5, .int r848), (0, .ref b), (1, .ref (K.2.2.2 0)), (2, .ref (K.2.2.2 40)), (3, .ref (K.2.2.2 55)), (4, .int x4)]) hx hb dL_law_863 hl (by decide) rfl (fun ls hl => ?_)
        refine lv_aload_n hx hb dL_law_865 rfl (lv_at hl 4 rfl) ?_
        obtain ⟨r866, h866, h⟩ := mi_b1 h
        refine fm_ci (va_runV (As := []) (rest := []) C (kX5_thrown l K h866 _) (cwV 0 hts gL_law_X5_thrown rfl rfl rfl (by decide +kernel) ⟨(Nat.le_of_ble_eq_true rfl), (Nat.le_of_ble_eq_true rfl)⟩) ⟨fm_blind, fm_recv hst hH (q := 40) (by decide) rfl (fm_ob_40 _ _) rfl, fm_pre hst hA hH⟩ rfl rfl hl.1 rfl (lv_room (Nat.le_of_ble_eq_true rfl)) dL_law_866 ⟨by show _ ≤ 630926; omega, by show _ ≤ 7203325; omega⟩) hA hH (fun H locs hH => ?_)
        refine lv_iload hx hb dL_law_869 (lv_at hl 1 rfl) ?_
        refine lv_icmp_eq (tgt := 876) hx hb dL_law_871 (by decide) (fun hc => ?_) (fun hc => ?_)
        · replace h := mi_pos hc h
          refine lv_iload hx hb dL_law_876 (lv_at hl 1 rfl) ?_
          refine lv_if_ne (tgt := 893) hx hb dL_law_878 (by decide) (fun hc => ?_) (fun hc => ?_)
          · replace h := mi_neg hc h
            refine lv_goto (tgt := 1589) hx hb dL_law_893 (by decide) ?_
            refine lv_iinc (v := (x4 + 4)) (lv' := [(4, .int (x4 + 4)), (6, .int r860), (5, .int r848), (0, .ref b), (1, .ref (K.2.2.2 0)), (2, .ref (K.2.2.2 40)), (3, .ref (K.2.2.2 55))]) hx hb dL_law_1589 hl (k := 6) rfl rfl (by decide) rfl (fun ls hl => ?_)
            refine lv_goto (tgt := 23) hx hb dL_law_1592 (by decide) ?_
            refine W.widen (k := ce + 8) (n := sl + 48) (by omega) (by omega) ?_
            exact ih _ _ _ _ (by omega) (by omega) h kk _ _ _ (lv_sub hl [3, 4, 5, 6, 0] rfl) hH
          · replace h := mi_pos hc h
            refine lv_aload_n hx hb dL_law_881 rfl (lv_at hl 5 rfl) ?_
            refine lv_iconst (v := 0) hx hb dL_law_882 (by decide) ?_
            obtain ⟨hi31, h⟩ := mi_chk h
            refine fm_lld hx hb hst.1 hH 55 (by decide) rfl rfl hi31 dL_law_883 ?_
            refine lv_iload hx hb dL_law_884 (lv_at hl 0 rfl) ?_
            refine lv_i2l (v := r860.toInt64) hx hb dL_law_886 rfl ?_
            refine W.lcmp hx hb dL_law_887 ?_
            refine lv_if_eq (tgt := 893) hx hb dL_law_888 (by decide) (fun hc => ?_) (fun hc => ?_)
            · replace h := mi_pos hc h
              refine lv_goto (tgt := 1589) hx hb dL_law_893 (by decide) ?_
              refine lv_iinc (v := (x4 + 4)) (lv' := [(4, .int (x4 + 4)), (6, .int r860), (5, .int r848), (0, .ref b), (1, .ref (K.2.2.2 0)), (2, .ref (K.2.2.2 40)), (3, .ref (K.2.2.2 55))]) hx hb dL_law_1589 hl (k := 6) rfl rfl (by decide) rfl (fun ls hl => ?_)
              refine lv_goto (tgt := 23) hx hb dL_law_1592 (by decide) ?_
              refine W.widen (k := ce + 8) (n := sl + 48) (by omega) (by omega) ?_
              exact ih _ _ _ _ (by omega) (by omega) h kk _ _ _ (lv_sub hl [3, 4, 5, 6, 0] rfl) hH
            · replace h := mi_neg hc h
              refine lv_iconst (v := 0) hx hb dL_law_891 (by decide) ?_
              cases h
        · replace h := mi_neg hc h
          refine lv_iconst (v := 0) hx hb dL_law_874 (by decide) ?_
          cases h
      have hk13 := hk
      clear hk
      replace h := mi_neg hk13 h
      by_cases hk : ((xs x4.toNatClampNeg) &&& (31 : Int32)) = 14
      · replace h := mi_pos hk h
        rw [hk]
        refine lv_tableIn (tgt := 896) hx hb dL_law_39 (by decide) (by decide) rfl (by decide) ?_
        refine lv_aload_n hx hb dL_law_896 rfl (lv_at hl 1 rfl) ?_
        obtain ⟨r897, σ897, h897, h⟩ := mi_b2 h
        refine fm_cl (va_runV (As := []) (rest := []) C (kX4_trees l K h897 _) (cwV 0 hts gL_law_X4_trees rfl rfl rfl (by decide +kernel) ⟨(Nat.le_of_ble_eq_true rfl), (Nat.le_of_ble_eq_true rfl)⟩) ⟨fm_blind, fm_recv hst hH (q := 0) (by decide) rfl (fm_ob_0 _ _) rfl, fm_pre hst hA hH⟩ rfl rfl hl.1 rfl (lv_room (Nat.le_of_ble_eq_true rfl)) dL_law_897 ⟨by show _ ≤ 630926; omega, by show _ ≤ 7203325; omega⟩) hA hH (fun H locs hH => ?_)
        refine lv_aload_n hx hb dL_law_900 rfl (lv_at hl 2 rfl) ?_
        obtain ⟨r901, σ901, h901, h⟩ := mi_b2 h
        refine fm_cl (va_runV (As := []) (rest := [.long r897]) C (kX5_trees l K h901 _) (cwV 0 hts gL_law_X5_trees rfl rfl rfl (by decide +kernel) ⟨(Nat.le_of_ble_eq_true rfl), (Nat.le_of_ble_eq_true rfl)⟩) ⟨fm_blind, fm_recv hst hH (q := 40) (by decide) rfl (fm_ob_40 _ _) rfl, fm_pre hst hA hH⟩ rfl rfl hl.1 rfl (lv_room (Nat.le_of_ble_eq_true rfl)) dL_law_901 ⟨by show _ ≤ 630926; omega, by show _ ≤ 7203325; omega⟩) hA hH (fun H locs hH => ?_)
        refine W.lcmp hx hb dL_law_904 ?_
        refine lv_if_eq (tgt := 1589) hx hb dL_law_905 (by decide) (fun hc => ?_) (fun hc => ?_)
        · replace h := mi_pos hc h
          refine lv_iinc (v := (x4 + 4)) (lv' := [(4, .int (x4 + 4)), (0, .ref b), (1, .ref (K.2.2.2 0)), (2, .ref (K.2.2.2 40)), (3, .ref (K.2.2.2 55))]) hx hb dL_law_1589 hl (k := 4) rfl rfl (by decide) rfl (fun ls hl => ?_)
          refine lv_goto (tgt := 23) hx hb dL_law_1592 (by decide) ?_
          refine W.widen (k := ce + 8) (n := sl + 48) (by omega) (by omega) ?_
          exact ih _ _ _ _ (by omega) (by omega) h kk _ _ _ (lv_sub hl [1, 2, 3, 4, 0] rfl) hH
        · replace h := mi_neg hc h
          refine lv_iconst (v := 0) hx hb dL_law_908 (by decide) ?_
          cases h
      have hk14 := hk
      clear hk
      replace h := mi_neg hk14 h
      by_cases hk : ((xs x4.toNatClampNeg) &&& (31 : Int32)) = 15
      · replace h := mi_pos hk h
        rw [hk]
        refine lv_tableIn (tgt := 910) hx hb dL_law_39 (by decide) (by decide) rfl (by decide) ?_
        refine lv_aload_n hx hb dL_law_910 rfl (lv_at hl 1 rfl) ?_
        refine lv_aload_n hx hb dL_law_911 rfl (lv_at hl 0 rfl) ?_
        refine lv_iload hx hb dL_law_912 (lv_at hl 4 rfl) ?_
        refine lv_iconst (v := 1) hx hb dL_law_914 (by decide) ?_
        refine lv_iadd hx hb dL_law_915 ?_
        obtain ⟨hi32, h⟩ := mi_chk h
        refine va_sld hx hb hX hbl hbA hH.2.2 hi32 dL_law_916 ?_
        refine lv_aload_n hx hb dL_law_917 rfl (lv_at hl 0 rfl) ?_
        refine lv_iload hx hb dL_law_918 (lv_at hl 4 rfl) ?_
        refine lv_iconst (v := 2) hx hb dL_law_920 (by decide) ?_
        refine lv_iadd hx hb dL_law_921 ?_
        obtain ⟨hi33, h⟩ := mi_chk h
        refine va_sld hx hb hX hbl hbA hH.2.2 hi33 dL_law_922 ?_
        refine lv_aload_n hx hb dL_law_923 rfl (lv_at hl 3 rfl) ?_
        obtain ⟨r924, σ924, h924, h⟩ := mi_b2 h
        refine fm_ciW (vx_runSW (As := [.ref (K.2.2.2 0), .int (xs (x4 + (1 : Int32)).toNatClampNeg), .int (xs (x4 + (2 : Int32)).toNatClampNeg), .ref (K.2.2.2 55)]) (rest := []) C (kL_setEstimate l K hfl h924 _) (vx_cwSW 4 hts gL_law_L_setEstimate rfl rfl rfl (by decide +kernel) ⟨(Nat.le_of_ble_eq_true rfl), (Nat.le_of_ble_eq_true rfl)⟩) ⟨fm_blind, fm_pre hst hA hH⟩ rfl rfl hl.1 rfl (lv_room (Nat.le_of_ble_eq_true rfl)) dL_law_924 ⟨by show _ ≤ 630926; omega, by show _ ≤ 7203325; omega⟩) hA hH (fun H locs hH => ?_)
        refine W.widen (k := ce + 2) (n := sl + 12) (by omega) (by omega) ?_
        refine lv_istore (lv' := [(5, .int r924), (0, .ref b), (1, .ref (K.2.2.2 0)), (2, .ref (K.2.2.2 40)), (3, .ref (K.2.2.2 55)), (4, .int x4)]) hx hb dL_law_927 hl (by decide) rfl (fun ls hl => ?_)
        refine lv_aload_n hx hb dL_law_929 rfl (lv_at hl 3 rfl) ?_
        refine lv_aload_n hx hb dL_law_930 rfl (lv_at hl 1 rfl) ?_
        refine lv_iload hx hb dL_law_931 (lv_at hl 5 rfl) ?_
        refine lv_iconst (v := 1) hx hb dL_law_933 (by decide) ?_
        refine lv_iadd hx hb dL_law_934 ?_
        refine va_sld hx hb hX hbl hbA hH.2.2 hi32 dL_law_935 ?_
        refine lv_aload_n hx hb dL_law_936 rfl (lv_at hl 1 rfl) ?_
        refine lv_iload hx hb dL_law_937 (lv_at hl 5 rfl) ?_
        refine lv_iconst (v := 2) hx hb dL_law_939 (by decide) ?_
        refine lv_iadd hx hb dL_law_940 ?_
        refine va_sld hx hb hX hbl hbA hH.2.2 hi33 dL_law_941 ?_
        obtain ⟨r942, σ942, h942, h⟩ := mi_b2 h
        refine fm_ci (va_runV (As := [.int (xs (x4 + (1 : Int32)).toNatClampNeg), .int (xs (x4 + (2 : Int32)).toNatClampNeg)]) (rest := []) C (kX5_setEstimate l K h942 _) (cwV 2 hts gL_law_X5_setEstimate rfl rfl rfl (by decide +kernel) ⟨(Nat.le_of_ble_eq_true rfl), (Nat.le_of_ble_eq_true rfl)⟩) ⟨fm_blind, fm_recv hst hH (q := 40) (by decide) rfl (fm_ob_40 _ _) rfl, fm_pre hst hA hH⟩ rfl rfl hl.1 rfl (lv_room (Nat.le_of_ble_eq_true rfl)) dL_law_942 ⟨by show _ ≤ 630926; omega, by show _ ≤ 7203325; omega⟩) hA hH (fun H locs hH => ?_)
        refine lv_istore (lv' := [(6, .int r942), (5, .int r924), (0, .ref b), (1, .ref (K.2.2.2 0)), (2, .ref (K.2.2.2 40)), (3, .ref (K.2.2.2 55)), (4, .int x4)]) hx hb dL_law_945 hl (by decide) rfl (fun ls hl => ?_)
        refine lv_aload_n hx hb dL_law_947 rfl (lv_at hl 4 rfl) ?_
        obtain ⟨r948, h948, h⟩ := mi_b1 h
        refine fm_ci (va_runV (As := []) (rest := []) C (kX5_thrown l K h948 _) (cwV 0 hts gL_law_X5_thrown rfl rfl rfl (by decide +kernel) ⟨(Nat.le_of_ble_eq_true rfl), (Nat.le_of_ble_eq_true rfl)⟩) ⟨fm_blind, fm_recv hst hH (q := 40) (by decide) rfl (fm_ob_40 _ _) rfl, fm_pre hst hA hH⟩ rfl rfl hl.1 rfl (lv_room (Nat.le_of_ble_eq_true rfl)) dL_law_948 ⟨by show _ ≤ 630926; omega, by show _ ≤ 7203325; omega⟩) hA hH (fun H locs hH => ?_)
        refine lv_iload hx hb dL_law_951 (lv_at hl 1 rfl) ?_
        refine lv_icmp_eq (tgt := 958) hx hb dL_law_953 (by decide) (fun hc => ?_) (fun hc => ?_)
        · replace h := mi_pos hc h
          refine lv_iload hx hb dL_law_958 (lv_at hl 1 rfl) ?_
          refine lv_if_ne (tgt := 975) hx hb dL_law_960 (by decide) (fun hc => ?_) (fun hc => ?_)
          · replace h := mi_neg hc h
            refine lv_goto (tgt := 1589) hx hb dL_law_975 (by decide) ?_
            refine lv_iinc (v := (x4 + 4)) (lv' := [(4, .int (x4 + 4)), (6, .int r942), (5, .int r924), (0, .ref b), (1, .ref (K.2.2.2 0)), (2, .ref (K.2.2.2 40)), (3, .ref (K.2.2.2 55))]) hx hb dL_law_1589 hl (k := 6) rfl rfl (by decide) rfl (fun ls hl => ?_)
            refine lv_goto (tgt := 23) hx hb dL_law_1592 (by decide) ?_
            refine W.widen (k := ce + 8) (n := sl + 48) (by omega) (by omega) ?_
            exact ih _ _ _ _ (by omega) (by omega) h kk _ _ _ (lv_sub hl [3, 4, 5, 6, 0] rfl) hH
          · replace h := mi_pos hc h
            refine lv_aload_n hx hb dL_law_963 rfl (lv_at hl 5 rfl) ?_
            refine lv_iconst (v := 0) hx hb dL_law_964 (by decide) ?_
            obtain ⟨hi34, h⟩ := mi_chk h
            refine fm_lld hx hb hst.1 hH 55 (by decide) rfl rfl hi34 dL_law_965 ?_
            refine lv_iload hx hb dL_law_966 (lv_at hl 0 rfl) ?_
            refine lv_i2l (v := r942.toInt64) hx hb dL_law_968 rfl ?_
            refine W.lcmp hx hb dL_law_969 ?_
            refine lv_if_eq (tgt := 975) hx hb dL_law_970 (by decide) (fun hc => ?_) (fun hc => ?_)
            · replace h := mi_pos hc h
              refine lv_goto (tgt := 1589) hx hb dL_law_975 (by decide) ?_
              refine lv_iinc (v := (x4 + 4)) (lv' := [(4, .int (x4 + 4)), (6, .int r942), (5, .int r924), (0, .ref b), (1, .ref (K.2.2.2 0)), (2, .ref (K.2.2.2 40)), (3, .ref (K.2.2.2 55))]) hx hb dL_law_1589 hl (k := 6) rfl rfl (by decide) rfl (fun ls hl => ?_)
              refine lv_goto (tgt := 23) hx hb dL_law_1592 (by decide) ?_
              refine W.widen (k := ce + 8) (n := sl + 48) (by omega) (by omega) ?_
              exact ih _ _ _ _ (by omega) (by omega) h kk _ _ _ (lv_sub hl [3, 4, 5, 6, 0] rfl) hH
            · replace h := mi_neg hc h
              refine lv_iconst (v := 0) hx hb dL_law_973 (by decide) ?_
              cases h
        · replace h := mi_neg hc h
          refine lv_iconst (v := 0) hx hb dL_law_956 (by decide) ?_
          cases h
      have hk15 := hk
      clear hk
      replace h := mi_neg hk15 h
      by_cases hk : ((xs x4.toNatClampNeg) &&& (31 : Int32)) = 16
      · replace h := mi_pos hk h
        rw [hk]
        refine lv_tableIn (tgt := 978) hx hb dL_law_39 (by decide) (by decide) rfl (by decide) ?_
        refine lv_aload_n hx hb dL_law_978 rfl (lv_at hl 1 rfl) ?_
        refine lv_aload_n hx hb dL_law_979 rfl (lv_at hl 0 rfl) ?_
        refine lv_iload hx hb dL_law_980 (lv_at hl 4 rfl) ?_
        refine lv_iconst (v := 1) hx hb dL_law_982 (by decide) ?_
        refine lv_iadd hx hb dL_law_983 ?_
        obtain ⟨hi35, h⟩ := mi_chk h
        refine va_sld hx hb hX hbl hbA hH.2.2 hi35 dL_law_984 ?_
        refine lv_aload_n hx hb dL_law_985 rfl (lv_at hl 3 rfl) ?_
        obtain ⟨r986, σ986, h986, h⟩ := mi_b2 h
        refine fm_ciW (vx_runSW (As := [.ref (K.2.2.2 0), .int (xs (x4 + (1 : Int32)).toNatClampNeg), .ref (K.2.2.2 55)]) (rest := []) C (kL_estimate l K hfl h986 _) (vx_cwSW 3 hts gL_law_L_estimate rfl rfl rfl (by decide +kernel) ⟨(Nat.le_of_ble_eq_true rfl), (Nat.le_of_ble_eq_true rfl)⟩) ⟨fm_blind, fm_pre hst hA hH⟩ rfl rfl hl.1 rfl (lv_room (Nat.le_of_ble_eq_true rfl)) dL_law_986 ⟨by show _ ≤ 630926; omega, by show _ ≤ 7203325; omega⟩) hA hH (fun H locs hH => ?_)
        refine W.widen (k := ce + 1) (n := sl + 6) (by omega) (by omega) ?_
        refine lv_istore (lv' := [(5, .int r986), (0, .ref b), (1, .ref (K.2.2.2 0)), (2, .ref (K.2.2.2 40)), (3, .ref (K.2.2.2 55)), (4, .int x4)]) hx hb dL_law_989 hl (by decide) rfl (fun ls hl => ?_)
        refine lv_aload_n hx hb dL_law_991 rfl (lv_at hl 3 rfl) ?_
        refine lv_aload_n hx hb dL_law_992 rfl (lv_at hl 1 rfl) ?_
        refine lv_iload hx hb dL_law_993 (lv_at hl 5 rfl) ?_
        refine lv_iconst (v := 1) hx hb dL_law_995 (by decide) ?_
        refine lv_iadd hx hb dL_law_996 ?_
        refine va_sld hx hb hX hbl hbA hH.2.2 hi35 dL_law_997 ?_
        obtain ⟨r998, σ998, h998, h⟩ := mi_b2 h
        refine fm_ci (va_runV (As := [.int (xs (x4 + (1 : Int32)).toNatClampNeg)]) (rest := []) C (kX5_estimate l K h998 _) (cwV 1 hts gL_law_X5_estimate rfl rfl rfl (by decide +kernel) ⟨(Nat.le_of_ble_eq_true rfl), (Nat.le_of_ble_eq_true rfl)⟩) ⟨fm_blind, fm_recv hst hH (q := 40) (by decide) rfl (fm_ob_40 _ _) rfl, fm_pre hst hA hH⟩ rfl rfl hl.1 rfl (lv_room (Nat.le_of_ble_eq_true rfl)) dL_law_998 ⟨by show _ ≤ 630926; omega, by show _ ≤ 7203325; omega⟩) hA hH (fun H locs hH => ?_)
        refine lv_istore (lv' := [(6, .int r998), (5, .int r986), (0, .ref b), (1, .ref (K.2.2.2 0)), (2, .ref (K.2.2.2 40)), (3, .ref (K.2.2.2 55)), (4, .int x4)]) hx hb dL_law_1001 hl (by decide) rfl (fun ls hl => ?_)
        refine lv_aload_n hx hb dL_law_1003 rfl (lv_at hl 4 rfl) ?_
        obtain ⟨r1004, h1004, h⟩ := mi_b1 h
        refine fm_ci (va_runV (As := []) (rest := []) C (kX5_thrown l K h1004 _) (cwV 0 hts gL_law_X5_thrown rfl rfl rfl (by decide +kernel) ⟨(Nat.le_of_ble_eq_true rfl), (Nat.le_of_ble_eq_true rfl)⟩) ⟨fm_blind, fm_recv hst hH (q := 40) (by decide) rfl (fm_ob_40 _ _) rfl, fm_pre hst hA hH⟩ rfl rfl hl.1 rfl (lv_room (Nat.le_of_ble_eq_true rfl)) dL_law_1004 ⟨by show _ ≤ 630926; omega, by show _ ≤ 7203325; omega⟩) hA hH (fun H locs hH => ?_)
        refine lv_iload hx hb dL_law_1007 (lv_at hl 1 rfl) ?_
        refine lv_icmp_eq (tgt := 1014) hx hb dL_law_1009 (by decide) (fun hc => ?_) (fun hc => ?_)
        · replace h := mi_pos hc h
          refine lv_iload hx hb dL_law_1014 (lv_at hl 1 rfl) ?_
          refine lv_if_ne (tgt := 1031) hx hb dL_law_1016 (by decide) (fun hc => ?_) (fun hc => ?_)
          · replace h := mi_neg hc h
            refine lv_goto (tgt := 1589) hx hb dL_law_1031 (by decide) ?_
            refine lv_iinc (v := (x4 + 4)) (lv' := [(4, .int (x4 + 4)), (6, .int r998), (5, .int r986), (0, .ref b), (1, .ref (K.2.2.2 0)), (2, .ref (K.2.2.2 40)), (3, .ref (K.2.2.2 55))]) hx hb dL_law_1589 hl (k := 6) rfl rfl (by decide) rfl (fun ls hl => ?_)
            refine lv_goto (tgt := 23) hx hb dL_law_1592 (by decide) ?_
            refine W.widen (k := ce + 8) (n := sl + 48) (by omega) (by omega) ?_
            exact ih _ _ _ _ (by omega) (by omega) h kk _ _ _ (lv_sub hl [3, 4, 5, 6, 0] rfl) hH
          · replace h := mi_pos hc h
            refine lv_aload_n hx hb dL_law_1019 rfl (lv_at hl 5 rfl) ?_
            refine lv_iconst (v := 0) hx hb dL_law_1020 (by decide) ?_
            obtain ⟨hi36, h⟩ := mi_chk h
            refine fm_lld hx hb hst.1 hH 55 (by decide) rfl rfl hi36 dL_law_1021 ?_
            refine lv_iload hx hb dL_law_1022 (lv_at hl 0 rfl) ?_
            refine lv_i2l (v := r998.toInt64) hx hb dL_law_1024 rfl ?_
            refine W.lcmp hx hb dL_law_1025 ?_
            refine lv_if_eq (tgt := 1031) hx hb dL_law_1026 (by decide) (fun hc => ?_) (fun hc => ?_)
            · replace h := mi_pos hc h
              refine lv_goto (tgt := 1589) hx hb dL_law_1031 (by decide) ?_
              refine lv_iinc (v := (x4 + 4)) (lv' := [(4, .int (x4 + 4)), (6, .int r998), (5, .int r986), (0, .ref b), (1, .ref (K.2.2.2 0)), (2, .ref (K.2.2.2 40)), (3, .ref (K.2.2.2 55))]) hx hb dL_law_1589 hl (k := 6) rfl rfl (by decide) rfl (fun ls hl => ?_)
              refine lv_goto (tgt := 23) hx hb dL_law_1592 (by decide) ?_
              refine W.widen (k := ce + 8) (n := sl + 48) (by omega) (by omega) ?_
              exact ih _ _ _ _ (by omega) (by omega) h kk _ _ _ (lv_sub hl [3, 4, 5, 6, 0] rfl) hH
            · replace h := mi_neg hc h
              refine lv_iconst (v := 0) hx hb dL_law_1029 (by decide) ?_
              cases h
        · replace h := mi_neg hc h
          refine lv_iconst (v := 0) hx hb dL_law_1012 (by decide) ?_
          cases h
      have hk16 := hk
      clear hk
      replace h := mi_neg hk16 h
      by_cases hk : ((xs x4.toNatClampNeg) &&& (31 : Int32)) = 17
      · replace h := mi_pos hk h
        rw [hk]
        refine lv_tableIn (tgt := 1034) hx hb dL_law_39 (by decide) (by decide) rfl (by decide) ?_
        refine lv_aload_n hx hb dL_law_1034 rfl (lv_at hl 1 rfl) ?_
        refine lv_aload_n hx hb dL_law_1035 rfl (lv_at hl 0 rfl) ?_
        refine lv_iload hx hb dL_law_1036 (lv_at hl 4 rfl) ?_
        refine lv_iconst (v := 1) hx hb dL_law_1038 (by decide) ?_
        refine lv_iadd hx hb dL_law_1039 ?_
        obtain ⟨hi37, h⟩ := mi_chk h
        refine va_sld hx hb hX hbl hbA hH.2.2 hi37 dL_law_1040 ?_
        refine lv_aload_n hx hb dL_law_1041 rfl (lv_at hl 3 rfl) ?_
        obtain ⟨r1042, σ1042, h1042, h⟩ := mi_b2 h
        refine fm_ciW (vx_runSW (As := [.ref (K.2.2.2 0), .int (xs (x4 + (1 : Int32)).toNatClampNeg), .ref (K.2.2.2 55)]) (rest := []) C (kL_agree l K hfl h1042 _) (vx_cwSW 3 hts gL_law_L_agree rfl rfl rfl (by decide +kernel) ⟨(Nat.le_of_ble_eq_true rfl), (Nat.le_of_ble_eq_true rfl)⟩) ⟨fm_blind, fm_pre hst hA hH⟩ rfl rfl hl.1 rfl (lv_room (Nat.le_of_ble_eq_true rfl)) dL_law_1042 ⟨by show _ ≤ 630926; omega, by show _ ≤ 7203325; omega⟩) hA hH (fun H locs hH => ?_)
        refine W.widen (k := ce + 1) (n := sl + 6) (by omega) (by omega) ?_
        refine lv_istore (lv' := [(5, .int r1042), (0, .ref b), (1, .ref (K.2.2.2 0)), (2, .ref (K.2.2.2 40)), (3, .ref (K.2.2.2 55)), (4, .int x4)]) hx hb dL_law_1045 hl (by decide) rfl (fun ls hl => ?_)
        refine lv_aload_n hx hb dL_law_1047 rfl (lv_at hl 3 rfl) ?_
        refine lv_aload_n hx hb dL_law_1048 rfl (lv_at hl 1 rfl) ?_
        refine lv_iload hx hb dL_law_1049 (lv_at hl 5 rfl) ?_
        refine lv_iconst (v := 1) hx hb dL_law_1051 (by decide) ?_
        refine lv_iadd hx hb dL_law_1052 ?_
        refine va_sld hx hb hX hbl hbA hH.2.2 hi37 dL_law_1053 ?_
        obtain ⟨r1054, σ1054, h1054, h⟩ := mi_b2 h
        refine fm_ci (va_runV (As := [.int (xs (x4 + (1 : Int32)).toNatClampNeg)]) (rest := []) C (kX5_agree l K h1054 _) (cwV 1 hts gL_law_X5_agree rfl rfl rfl (by decide +kernel) ⟨(Nat.le_of_ble_eq_true rfl), (Nat.le_of_ble_eq_true rfl)⟩) ⟨fm_blind, fm_recv hst hH (q := 40) (by decide) rfl (fm_ob_40 _ _) rfl, fm_pre hst hA hH⟩ rfl rfl hl.1 rfl (lv_room (Nat.le_of_ble_eq_true rfl)) dL_law_1054 ⟨by show _ ≤ 630926; omega, by show _ ≤ 7203325; omega⟩) hA hH (fun H locs hH => ?_)
        refine lv_istore (lv' := [(6, .int r1054), (5, .int r1042), (0, .ref b), (1, .ref (K.2.2.2 0)), (2, .ref (K.2.2.2 40)), (3, .ref (K.2.2.2 55)), (4, .int x4)]) hx hb dL_law_1057 hl (by decide) rfl (fun ls hl => ?_)
        refine lv_aload_n hx hb dL_law_1059 rfl (lv_at hl 4 rfl) ?_
        obtain ⟨r1060, h1060, h⟩ := mi_b1 h
        refine fm_ci (va_runV (As := []) (rest := []) C (kX5_thrown l K h1060 _) (cwV 0 hts gL_law_X5_thrown rfl rfl rfl (by decide +kernel) ⟨(Nat.le_of_ble_eq_true rfl), (Nat.le_of_ble_eq_true rfl)⟩) ⟨fm_blind, fm_recv hst hH (q := 40) (by decide) rfl (fm_ob_40 _ _) rfl, fm_pre hst hA hH⟩ rfl rfl hl.1 rfl (lv_room (Nat.le_of_ble_eq_true rfl)) dL_law_1060 ⟨by show _ ≤ 630926; omega, by show _ ≤ 7203325; omega⟩) hA hH (fun H locs hH => ?_)
        refine lv_iload hx hb dL_law_1063 (lv_at hl 1 rfl) ?_
        refine lv_icmp_eq (tgt := 1070) hx hb dL_law_1065 (by decide) (fun hc => ?_) (fun hc => ?_)
        · replace h := mi_pos hc h
          refine lv_iload hx hb dL_law_1070 (lv_at hl 1 rfl) ?_
          refine lv_if_ne (tgt := 1087) hx hb dL_law_1072 (by decide) (fun hc => ?_) (fun hc => ?_)
          · replace h := mi_neg hc h
            refine lv_goto (tgt := 1589) hx hb dL_law_1087 (by decide) ?_
            refine lv_iinc (v := (x4 + 4)) (lv' := [(4, .int (x4 + 4)), (6, .int r1054), (5, .int r1042), (0, .ref b), (1, .ref (K.2.2.2 0)), (2, .ref (K.2.2.2 40)), (3, .ref (K.2.2.2 55))]) hx hb dL_law_1589 hl (k := 6) rfl rfl (by decide) rfl (fun ls hl => ?_)
            refine lv_goto (tgt := 23) hx hb dL_law_1592 (by decide) ?_
            refine W.widen (k := ce + 8) (n := sl + 48) (by omega) (by omega) ?_
            exact ih _ _ _ _ (by omega) (by omega) h kk _ _ _ (lv_sub hl [3, 4, 5, 6, 0] rfl) hH
          · replace h := mi_pos hc h
            refine lv_aload_n hx hb dL_law_1075 rfl (lv_at hl 5 rfl) ?_
            refine lv_iconst (v := 0) hx hb dL_law_1076 (by decide) ?_
            obtain ⟨hi38, h⟩ := mi_chk h
            refine fm_lld hx hb hst.1 hH 55 (by decide) rfl rfl hi38 dL_law_1077 ?_
            refine lv_iload hx hb dL_law_1078 (lv_at hl 0 rfl) ?_
            refine lv_i2l (v := r1054.toInt64) hx hb dL_law_1080 rfl ?_
            refine W.lcmp hx hb dL_law_1081 ?_
            refine lv_if_eq (tgt := 1087) hx hb dL_law_1082 (by decide) (fun hc => ?_) (fun hc => ?_)
            · replace h := mi_pos hc h
              refine lv_goto (tgt := 1589) hx hb dL_law_1087 (by decide) ?_
              refine lv_iinc (v := (x4 + 4)) (lv' := [(4, .int (x4 + 4)), (6, .int r1054), (5, .int r1042), (0, .ref b), (1, .ref (K.2.2.2 0)), (2, .ref (K.2.2.2 40)), (3, .ref (K.2.2.2 55))]) hx hb dL_law_1589 hl (k := 6) rfl rfl (by decide) rfl (fun ls hl => ?_)
              refine lv_goto (tgt := 23) hx hb dL_law_1592 (by decide) ?_
              refine W.widen (k := ce + 8) (n := sl + 48) (by omega) (by omega) ?_
              exact ih _ _ _ _ (by omega) (by omega) h kk _ _ _ (lv_sub hl [3, 4, 5, 6, 0] rfl) hH
            · replace h := mi_neg hc h
              refine lv_iconst (v := 0) hx hb dL_law_1085 (by decide) ?_
              cases h
        · replace h := mi_neg hc h
          refine lv_iconst (v := 0) hx hb dL_law_1068 (by decide) ?_
          cases h
      have hk17 := hk
      clear hk
      replace h := mi_neg hk17 h
      by_cases hk : ((xs x4.toNatClampNeg) &&& (31 : Int32)) = 18
      · replace h := mi_pos hk h
        rw [hk]
        refine lv_tableIn (tgt := 1090) hx hb dL_law_39 (by decide) (by decide) rfl (by decide) ?_
        refine lv_aload_n hx hb dL_law_1090 rfl (lv_at hl 1 rfl) ?_
        refine lv_aload_n hx hb dL_law_1091 rfl (lv_at hl 0 rfl) ?_
        refine lv_iload hx hb dL_law_1092 (lv_at hl 4 rfl) ?_
        refine lv_iconst (v := 1) hx hb dL_law_1094 (by decide) ?_
        refine lv_iadd hx hb dL_law_1095 ?_
        obtain ⟨hi39, h⟩ := mi_chk h
        refine va_sld hx hb hX hbl hbA hH.2.2 hi39 dL_law_1096 ?_
        refine lv_aload_n hx hb dL_law_1097 rfl (lv_at hl 0 rfl) ?_
        refine lv_iload hx hb dL_law_1098 (lv_at hl 4 rfl) ?_
        refine lv_iconst (v := 2) hx hb dL_law_1100 (by decide) ?_
        refine lv_iadd hx hb dL_law_1101 ?_
        obtain ⟨hi40, h⟩ := mi_chk h
        refine va_sld hx hb hX hbl hbA hH.2.2 hi40 dL_law_1102 ?_
        refine lv_aload_n hx hb dL_law_1103 rfl (lv_at hl 3 rfl) ?_
        obtain ⟨r1104, σ1104, h1104, h⟩ := mi_b2 h
        refine fm_ciW (vx_runSW (As := [.ref (K.2.2.2 0), .int (xs (x4 + (1 : Int32)).toNatClampNeg), .int (xs (x4 + (2 : Int32)).toNatClampNeg), .ref (K.2.2.2 55)]) (rest := []) C (kL_setSum l K hfl h1104 _) (vx_cwSW 4 hts gL_law_L_setSum rfl rfl rfl (by decide +kernel) ⟨(Nat.le_of_ble_eq_true rfl), (Nat.le_of_ble_eq_true rfl)⟩) ⟨fm_blind, fm_pre hst hA hH⟩ rfl rfl hl.1 rfl (lv_room (Nat.le_of_ble_eq_true rfl)) dL_law_1104 ⟨by show _ ≤ 630926; omega, by show _ ≤ 7203325; omega⟩) hA hH (fun H locs hH => ?_)
        refine W.widen (k := ce + 2) (n := sl + 12) (by omega) (by omega) ?_
        refine lv_istore (lv' := [(5, .int r1104), (0, .ref b), (1, .ref (K.2.2.2 0)), (2, .ref (K.2.2.2 40)), (3, .ref (K.2.2.2 55)), (4, .int x4)]) hx hb dL_law_1107 hl (by decide) rfl (fun ls hl => ?_)
        refine lv_aload_n hx hb dL_law_1109 rfl (lv_at hl 3 rfl) ?_
        refine lv_aload_n hx hb dL_law_1110 rfl (lv_at hl 1 rfl) ?_
        refine lv_iload hx hb dL_law_1111 (lv_at hl 5 rfl) ?_
        refine lv_iconst (v := 1) hx hb dL_law_1113 (by decide) ?_
        refine lv_iadd hx hb dL_law_1114 ?_
        refine va_sld hx hb hX hbl hbA hH.2.2 hi39 dL_law_1115 ?_
        refine lv_aload_n hx hb dL_law_1116 rfl (lv_at hl 1 rfl) ?_
        refine lv_iload hx hb dL_law_1117 (lv_at hl 5 rfl) ?_
        refine lv_iconst (v := 2) hx hb dL_law_1119 (by decide) ?_
        refine lv_iadd hx hb dL_law_1120 ?_
        refine va_sld hx hb hX hbl hbA hH.2.2 hi40 dL_law_1121 ?_
        obtain ⟨r1122, σ1122, h1122, h⟩ := mi_b2 h
        refine fm_ci (va_runV (As := [.int (xs (x4 + (1 : Int32)).toNatClampNeg), .int (xs (x4 + (2 : Int32)).toNatClampNeg)]) (rest := []) C (kX5_setSum l K h1122 _) (cwV 2 hts gL_law_X5_setSum rfl rfl rfl (by decide +kernel) ⟨(Nat.le_of_ble_eq_true rfl), (Nat.le_of_ble_eq_true rfl)⟩) ⟨fm_blind, fm_recv hst hH (q := 40) (by decide) rfl (fm_ob_40 _ _) rfl, fm_pre hst hA hH⟩ rfl rfl hl.1 rfl (lv_room (Nat.le_of_ble_eq_true rfl)) dL_law_1122 ⟨by show _ ≤ 630926; omega, by show _ ≤ 7203325; omega⟩) hA hH (fun H locs hH => ?_)
        refine lv_istore (lv' := [(6, .int r1122), (5, .int r1104), (0, .ref b), (1, .ref (K.2.2.2 0)), (2, .ref (K.2.2.2 40)), (3, .ref (K.2.2.2 55)), (4, .int x4)]) hx hb dL_law_1125 hl (by decide) rfl (fun ls hl => ?_)
        refine lv_aload_n hx hb dL_law_1127 rfl (lv_at hl 4 rfl) ?_
        obtain ⟨r1128, h1128, h⟩ := mi_b1 h
        refine fm_ci (va_runV (As := []) (rest := []) C (kX5_thrown l K h1128 _) (cwV 0 hts gL_law_X5_thrown rfl rfl rfl (by decide +kernel) ⟨(Nat.le_of_ble_eq_true rfl), (Nat.le_of_ble_eq_true rfl)⟩) ⟨fm_blind, fm_recv hst hH (q := 40) (by decide) rfl (fm_ob_40 _ _) rfl, fm_pre hst hA hH⟩ rfl rfl hl.1 rfl (lv_room (Nat.le_of_ble_eq_true rfl)) dL_law_1128 ⟨by show _ ≤ 630926; omega, by show _ ≤ 7203325; omega⟩) hA hH (fun H locs hH => ?_)
        refine lv_iload hx hb dL_law_1131 (lv_at hl 1 rfl) ?_
        refine lv_icmp_eq (tgt := 1138) hx hb dL_law_1133 (by decide) (fun hc => ?_) (fun hc => ?_)
        · replace h := mi_pos hc h
          refine lv_iload hx hb dL_law_1138 (lv_at hl 1 rfl) ?_
          refine lv_if_ne (tgt := 1155) hx hb dL_law_1140 (by decide) (fun hc => ?_) (fun hc => ?_)
          · replace h := mi_neg hc h
            refine lv_goto (tgt := 1589) hx hb dL_law_1155 (by decide) ?_
            refine lv_iinc (v := (x4 + 4)) (lv' := [(4, .int (x4 + 4)), (6, .int r1122), (5, .int r1104), (0, .ref b), (1, .ref (K.2.2.2 0)), (2, .ref (K.2.2.2 40)), (3, .ref (K.2.2.2 55))]) hx hb dL_law_1589 hl (k := 6) rfl rfl (by decide) rfl (fun ls hl => ?_)
            refine lv_goto (tgt := 23) hx hb dL_law_1592 (by decide) ?_
            refine W.widen (k := ce + 8) (n := sl + 48) (by omega) (by omega) ?_
            exact ih _ _ _ _ (by omega) (by omega) h kk _ _ _ (lv_sub hl [3, 4, 5, 6, 0] rfl) hH
          · replace h := mi_pos hc h
            refine lv_aload_n hx hb dL_law_1143 rfl (lv_at hl 5 rfl) ?_
            refine lv_iconst (v := 0) hx hb dL_law_1144 (by decide) ?_
            obtain ⟨hi41, h⟩ := mi_chk h
            refine fm_lld hx hb hst.1 hH 55 (by decide) rfl rfl hi41 dL_law_1145 ?_
            refine lv_iload hx hb dL_law_1146 (lv_at hl 0 rfl) ?_
            refine lv_i2l (v := r1122.toInt64) hx hb dL_law_1148 rfl ?_
            refine W.lcmp hx hb dL_law_1149 ?_
            refine lv_if_eq (tgt := 1155) hx hb dL_law_1150 (by decide) (fun hc => ?_) (fun hc => ?_)
            · replace h := mi_pos hc h
              refine lv_goto (tgt := 1589) hx hb dL_law_1155 (by decide) ?_
              refine lv_iinc (v := (x4 + 4)) (lv' := [(4, .int (x4 + 4)), (6, .int r1122), (5, .int r1104), (0, .ref b), (1, .ref (K.2.2.2 0)), (2, .ref (K.2.2.2 40)), (3, .ref (K.2.2.2 55))]) hx hb dL_law_1589 hl (k := 6) rfl rfl (by decide) rfl (fun ls hl => ?_)
              refine lv_goto (tgt := 23) hx hb dL_law_1592 (by decide) ?_
              refine W.widen (k := ce + 8) (n := sl + 48) (by omega) (by omega) ?_
              exact ih _ _ _ _ (by omega) (by omega) h kk _ _ _ (lv_sub hl [3, 4, 5, 6, 0] rfl) hH
            · replace h := mi_neg hc h
              refine lv_iconst (v := 0) hx hb dL_law_1153 (by decide) ?_
              cases h
        · replace h := mi_neg hc h
          refine lv_iconst (v := 0) hx hb dL_law_1136 (by decide) ?_
          cases h
      have hk18 := hk
      clear hk
      replace h := mi_neg hk18 h
      by_cases hk : ((xs x4.toNatClampNeg) &&& (31 : Int32)) = 19
      · replace h := mi_pos hk h
        rw [hk]
        refine lv_tableIn (tgt := 1158) hx hb dL_law_39 (by decide) (by decide) rfl (by decide) ?_
        refine lv_aload_n hx hb dL_law_1158 rfl (lv_at hl 1 rfl) ?_
        refine lv_aload_n hx hb dL_law_1159 rfl (lv_at hl 0 rfl) ?_
        refine lv_iload hx hb dL_law_1160 (lv_at hl 4 rfl) ?_
        refine lv_iconst (v := 1) hx hb dL_law_1162 (by decide) ?_
        refine lv_iadd hx hb dL_law_1163 ?_
        obtain ⟨hi42, h⟩ := mi_chk h
        refine va_sld hx hb hX hbl hbA hH.2.2 hi42 dL_law_1164 ?_
        refine lv_aload_n hx hb dL_law_1165 rfl (lv_at hl 3 rfl) ?_
        obtain ⟨r1166, σ1166, h1166, h⟩ := mi_b2 h
        refine fm_ciW (vx_runSW (As := [.ref (K.2.2.2 0), .int (xs (x4 + (1 : Int32)).toNatClampNeg), .ref (K.2.2.2 55)]) (rest := []) C (kL_sum l K hfl h1166 _) (vx_cwSW 3 hts gL_law_L_sum rfl rfl rfl (by decide +kernel) ⟨(Nat.le_of_ble_eq_true rfl), (Nat.le_of_ble_eq_true rfl)⟩) ⟨fm_blind, fm_pre hst hA hH⟩ rfl rfl hl.1 rfl (lv_room (Nat.le_of_ble_eq_true rfl)) dL_law_1166 ⟨by show _ ≤ 630926; omega, by show _ ≤ 7203325; omega⟩) hA hH (fun H locs hH => ?_)
        refine W.widen (k := ce + 1) (n := sl + 6) (by omega) (by omega) ?_
        refine lv_istore (lv' := [(5, .int r1166), (0, .ref b), (1, .ref (K.2.2.2 0)), (2, .ref (K.2.2.2 40)), (3, .ref (K.2.2.2 55)), (4, .int x4)]) hx hb dL_law_1169 hl (by decide) rfl (fun ls hl => ?_)
        refine lv_aload_n hx hb dL_law_1171 rfl (lv_at hl 3 rfl) ?_
        refine lv_aload_n hx hb dL_law_1172 rfl (lv_at hl 1 rfl) ?_
        refine lv_iload hx hb dL_law_1173 (lv_at hl 5 rfl) ?_
        refine lv_iconst (v := 1) hx hb dL_law_1175 (by decide) ?_
        refine lv_iadd hx hb dL_law_1176 ?_
        refine va_sld hx hb hX hbl hbA hH.2.2 hi42 dL_law_1177 ?_
        obtain ⟨r1178, σ1178, h1178, h⟩ := mi_b2 h
        refine fm_ci (va_runV (As := [.int (xs (x4 + (1 : Int32)).toNatClampNeg)]) (rest := []) C (kX5_sum l K h1178 _) (cwV 1 hts gL_law_X5_sum rfl rfl rfl (by decide +kernel) ⟨(Nat.le_of_ble_eq_true rfl), (Nat.le_of_ble_eq_true rfl)⟩) ⟨fm_blind, fm_recv hst hH (q := 40) (by decide) rfl (fm_ob_40 _ _) rfl, fm_pre hst hA hH⟩ rfl rfl hl.1 rfl (lv_room (Nat.le_of_ble_eq_true rfl)) dL_law_1178 ⟨by show _ ≤ 630926; omega, by show _ ≤ 7203325; omega⟩) hA hH (fun H locs hH => ?_)
        refine lv_istore (lv' := [(6, .int r1178), (5, .int r1166), (0, .ref b), (1, .ref (K.2.2.2 0)), (2, .ref (K.2.2.2 40)), (3, .ref (K.2.2.2 55)), (4, .int x4)]) hx hb dL_law_1181 hl (by decide) rfl (fun ls hl => ?_)
        refine lv_aload_n hx hb dL_law_1183 rfl (lv_at hl 4 rfl) ?_
        obtain ⟨r1184, h1184, h⟩ := mi_b1 h
        refine fm_ci (va_runV (As := []) (rest := []) C (kX5_thrown l K h1184 _) (cwV 0 hts gL_law_X5_thrown rfl rfl rfl (by decide +kernel) ⟨(Nat.le_of_ble_eq_true rfl), (Nat.le_of_ble_eq_true rfl)⟩) ⟨fm_blind, fm_recv hst hH (q := 40) (by decide) rfl (fm_ob_40 _ _) rfl, fm_pre hst hA hH⟩ rfl rfl hl.1 rfl (lv_room (Nat.le_of_ble_eq_true rfl)) dL_law_1184 ⟨by show _ ≤ 630926; omega, by show _ ≤ 7203325; omega⟩) hA hH (fun H locs hH => ?_)
        refine lv_iload hx hb dL_law_1187 (lv_at hl 1 rfl) ?_
        refine lv_icmp_eq (tgt := 1194) hx hb dL_law_1189 (by decide) (fun hc => ?_) (fun hc => ?_)
        · replace h := mi_pos hc h
          refine lv_iload hx hb dL_law_1194 (lv_at hl 1 rfl) ?_
          refine lv_if_ne (tgt := 1211) hx hb dL_law_1196 (by decide) (fun hc => ?_) (fun hc => ?_)
          · replace h := mi_neg hc h
            refine lv_goto (tgt := 1589) hx hb dL_law_1211 (by decide) ?_
            refine lv_iinc (v := (x4 + 4)) (lv' := [(4, .int (x4 + 4)), (6, .int r1178), (5, .int r1166), (0, .ref b), (1, .ref (K.2.2.2 0)), (2, .ref (K.2.2.2 40)), (3, .ref (K.2.2.2 55))]) hx hb dL_law_1589 hl (k := 6) rfl rfl (by decide) rfl (fun ls hl => ?_)
            refine lv_goto (tgt := 23) hx hb dL_law_1592 (by decide) ?_
            refine W.widen (k := ce + 8) (n := sl + 48) (by omega) (by omega) ?_
            exact ih _ _ _ _ (by omega) (by omega) h kk _ _ _ (lv_sub hl [3, 4, 5, 6, 0] rfl) hH
          · replace h := mi_pos hc h
            refine lv_aload_n hx hb dL_law_1199 rfl (lv_at hl 5 rfl) ?_
            refine lv_iconst (v := 0) hx hb dL_law_1200 (by decide) ?_
            obtain ⟨hi43, h⟩ := mi_chk h
            refine fm_lld hx hb hst.1 hH 55 (by decide) rfl rfl hi43 dL_law_1201 ?_
            refine lv_iload hx hb dL_law_1202 (lv_at hl 0 rfl) ?_
            refine lv_i2l (v := r1178.toInt64) hx hb dL_law_1204 rfl ?_
            refine W.lcmp hx hb dL_law_1205 ?_
            refine lv_if_eq (tgt := 1211) hx hb dL_law_1206 (by decide) (fun hc => ?_) (fun hc => ?_)
            · replace h := mi_pos hc h
              refine lv_goto (tgt := 1589) hx hb dL_law_1211 (by decide) ?_
              refine lv_iinc (v := (x4 + 4)) (lv' := [(4, .int (x4 + 4)), (6, .int r1178), (5, .int r1166), (0, .ref b), (1, .ref (K.2.2.2 0)), (2, .ref (K.2.2.2 40)), (3, .ref (K.2.2.2 55))]) hx hb dL_law_1589 hl (k := 6) rfl rfl (by decide) rfl (fun ls hl => ?_)
              refine lv_goto (tgt := 23) hx hb dL_law_1592 (by decide) ?_
              refine W.widen (k := ce + 8) (n := sl + 48) (by omega) (by omega) ?_
              exact ih _ _ _ _ (by omega) (by omega) h kk _ _ _ (lv_sub hl [3, 4, 5, 6, 0] rfl) hH
            · replace h := mi_neg hc h
              refine lv_iconst (v := 0) hx hb dL_law_1209 (by decide) ?_
              cases h
        · replace h := mi_neg hc h
          refine lv_iconst (v := 0) hx hb dL_law_1192 (by decide) ?_
          cases h
      have hk19 := hk
      clear hk
      replace h := mi_neg hk19 h
      by_cases hk : ((xs x4.toNatClampNeg) &&& (31 : Int32)) = 20
      · replace h := mi_pos hk h
        rw [hk]
        refine lv_tableIn (tgt := 1214) hx hb dL_law_39 (by decide) (by decide) rfl (by decide) ?_
        refine lv_aload_n hx hb dL_law_1214 rfl (lv_at hl 1 rfl) ?_
        refine lv_aload_n hx hb dL_law_1215 rfl (lv_at hl 0 rfl) ?_
        refine lv_iload hx hb dL_law_1216 (lv_at hl 4 rfl) ?_
        refine lv_iconst (v := 1) hx hb dL_law_1218 (by decide) ?_
        refine lv_iadd hx hb dL_law_1219 ?_
        obtain ⟨hi44, h⟩ := mi_chk h
        refine va_sld hx hb hX hbl hbA hH.2.2 hi44 dL_law_1220 ?_
        refine lv_aload_n hx hb dL_law_1221 rfl (lv_at hl 3 rfl) ?_
        obtain ⟨r1222, σ1222, h1222, h⟩ := mi_b2 h
        refine fm_ciW (vx_runSW (As := [.ref (K.2.2.2 0), .int (xs (x4 + (1 : Int32)).toNatClampNeg), .ref (K.2.2.2 55)]) (rest := []) C (kL_weight l K hfl h1222 _) (vx_cwSW 3 hts gL_law_L_weight rfl rfl rfl (by decide +kernel) ⟨(Nat.le_of_ble_eq_true rfl), (Nat.le_of_ble_eq_true rfl)⟩) ⟨fm_blind, fm_pre hst hA hH⟩ rfl rfl hl.1 rfl (lv_room (Nat.le_of_ble_eq_true rfl)) dL_law_1222 ⟨by show _ ≤ 630926; omega, by show _ ≤ 7203325; omega⟩) hA hH (fun H locs hH => ?_)
        refine W.widen (k := ce + 1) (n := sl + 6) (by omega) (by omega) ?_
        refine lv_istore (lv' := [(5, .int r1222), (0, .ref b), (1, .ref (K.2.2.2 0)), (2, .ref (K.2.2.2 40)), (3, .ref (K.2.2.2 55)), (4, .int x4)]) hx hb dL_law_1225 hl (by decide) rfl (fun ls hl => ?_)
        refine lv_aload_n hx hb dL_law_1227 rfl (lv_at hl 3 rfl) ?_
        refine lv_aload_n hx hb dL_law_1228 rfl (lv_at hl 1 rfl) ?_
        refine lv_iload hx hb dL_law_1229 (lv_at hl 5 rfl) ?_
        refine lv_iconst (v := 1) hx hb dL_law_1231 (by decide) ?_
        refine lv_iadd hx hb dL_law_1232 ?_
        refine va_sld hx hb hX hbl hbA hH.2.2 hi44 dL_law_1233 ?_
        obtain ⟨r1234, σ1234, h1234, h⟩ := mi_b2 h
        refine fm_ci (va_runV (As := [.int (xs (x4 + (1 : Int32)).toNatClampNeg)]) (rest := []) C (kX5_weight l K h1234 _) (cwV 1 hts gL_law_X5_weight rfl rfl rfl (by decide +kernel) ⟨(Nat.le_of_ble_eq_true rfl), (Nat.le_of_ble_eq_true rfl)⟩) ⟨fm_blind, fm_recv hst hH (q := 40) (by decide) rfl (fm_ob_40 _ _) rfl, fm_pre hst hA hH⟩ rfl rfl hl.1 rfl (lv_room (Nat.le_of_ble_eq_true rfl)) dL_law_1234 ⟨by show _ ≤ 630926; omega, by show _ ≤ 7203325; omega⟩) hA hH (fun H locs hH => ?_)
        refine lv_istore (lv' := [(6, .int r1234), (5, .int r1222), (0, .ref b), (1, .ref (K.2.2.2 0)), (2, .ref (K.2.2.2 40)), (3, .ref (K.2.2.2 55)), (4, .int x4)]) hx hb dL_law_1237 hl (by decide) rfl (fun ls hl => ?_)
        refine lv_aload_n hx hb dL_law_1239 rfl (lv_at hl 4 rfl) ?_
        obtain ⟨r1240, h1240, h⟩ := mi_b1 h
        refine fm_ci (va_runV (As := []) (rest := []) C (kX5_thrown l K h1240 _) (cwV 0 hts gL_law_X5_thrown rfl rfl rfl (by decide +kernel) ⟨(Nat.le_of_ble_eq_true rfl), (Nat.le_of_ble_eq_true rfl)⟩) ⟨fm_blind, fm_recv hst hH (q := 40) (by decide) rfl (fm_ob_40 _ _) rfl, fm_pre hst hA hH⟩ rfl rfl hl.1 rfl (lv_room (Nat.le_of_ble_eq_true rfl)) dL_law_1240 ⟨by show _ ≤ 630926; omega, by show _ ≤ 7203325; omega⟩) hA hH (fun H locs hH => ?_)
        refine lv_iload hx hb dL_law_1243 (lv_at hl 1 rfl) ?_
        refine lv_icmp_eq (tgt := 1250) hx hb dL_law_1245 (by decide) (fun hc => ?_) (fun hc => ?_)
        · replace h := mi_pos hc h
          refine lv_iload hx hb dL_law_1250 (lv_at hl 1 rfl) ?_
          refine lv_if_ne (tgt := 1267) hx hb dL_law_1252 (by decide) (fun hc => ?_) (fun hc => ?_)
          · replace h := mi_neg hc h
            refine lv_goto (tgt := 1589) hx hb dL_law_1267 (by decide) ?_
            refine lv_iinc (v := (x4 + 4)) (lv' := [(4, .int (x4 + 4)), (6, .int r1234), (5, .int r1222), (0, .ref b), (1, .ref (K.2.2.2 0)), (2, .ref (K.2.2.2 40)), (3, .ref (K.2.2.2 55))]) hx hb dL_law_1589 hl (k := 6) rfl rfl (by decide) rfl (fun ls hl => ?_)
            refine lv_goto (tgt := 23) hx hb dL_law_1592 (by decide) ?_
            refine W.widen (k := ce + 8) (n := sl + 48) (by omega) (by omega) ?_
            exact ih _ _ _ _ (by omega) (by omega) h kk _ _ _ (lv_sub hl [3, 4, 5, 6, 0] rfl) hH
          · replace h := mi_pos hc h
            refine lv_aload_n hx hb dL_law_1255 rfl (lv_at hl 5 rfl) ?_
            refine lv_iconst (v := 0) hx hb dL_law_1256 (by decide) ?_
            obtain ⟨hi45, h⟩ := mi_chk h
            refine fm_lld hx hb hst.1 hH 55 (by decide) rfl rfl hi45 dL_law_1257 ?_
            refine lv_iload hx hb dL_law_1258 (lv_at hl 0 rfl) ?_
            refine lv_i2l (v := r1234.toInt64) hx hb dL_law_1260 rfl ?_
            refine W.lcmp hx hb dL_law_1261 ?_
            refine lv_if_eq (tgt := 1267) hx hb dL_law_1262 (by decide) (fun hc => ?_) (fun hc => ?_)
            · replace h := mi_pos hc h
              refine lv_goto (tgt := 1589) hx hb dL_law_1267 (by decide) ?_
              refine lv_iinc (v := (x4 + 4)) (lv' := [(4, .int (x4 + 4)), (6, .int r1234), (5, .int r1222), (0, .ref b), (1, .ref (K.2.2.2 0)), (2, .ref (K.2.2.2 40)), (3, .ref (K.2.2.2 55))]) hx hb dL_law_1589 hl (k := 6) rfl rfl (by decide) rfl (fun ls hl => ?_)
              refine lv_goto (tgt := 23) hx hb dL_law_1592 (by decide) ?_
              refine W.widen (k := ce + 8) (n := sl + 48) (by omega) (by omega) ?_
              exact ih _ _ _ _ (by omega) (by omega) h kk _ _ _ (lv_sub hl [3, 4, 5, 6, 0] rfl) hH
            · replace h := mi_neg hc h
              refine lv_iconst (v := 0) hx hb dL_law_1265 (by decide) ?_
              cases h
        · replace h := mi_neg hc h
          refine lv_iconst (v := 0) hx hb dL_law_1248 (by decide) ?_
          cases h
      have hk20 := hk
      clear hk
      replace h := mi_neg hk20 h
      by_cases hk : ((xs x4.toNatClampNeg) &&& (31 : Int32)) = 21
      · replace h := mi_pos hk h
        rw [hk]
        refine lv_tableIn (tgt := 1270) hx hb dL_law_39 (by decide) (by decide) rfl (by decide) ?_
        refine lv_aload_n hx hb dL_law_1270 rfl (lv_at hl 1 rfl) ?_
        refine lv_aload_n hx hb dL_law_1271 rfl (lv_at hl 0 rfl) ?_
        refine lv_iload hx hb dL_law_1272 (lv_at hl 4 rfl) ?_
        refine lv_iconst (v := 1) hx hb dL_law_1274 (by decide) ?_
        refine lv_iadd hx hb dL_law_1275 ?_
        obtain ⟨hi46, h⟩ := mi_chk h
        refine va_sld hx hb hX hbl hbA hH.2.2 hi46 dL_law_1276 ?_
        refine lv_aload_n hx hb dL_law_1277 rfl (lv_at hl 3 rfl) ?_
        obtain ⟨r1278, σ1278, h1278, h⟩ := mi_b2 h
        refine fm_ciW (vx_runSW (As := [.ref (K.2.2.2 0), .int (xs (x4 + (1 : Int32)).toNatClampNeg), .ref (K.2.2.2 55)]) (rest := []) C (kL_spread l K hfl h1278 _) (vx_cwSW 3 hts gL_law_L_spread rfl rfl rfl (by decide +kernel) ⟨(Nat.le_of_ble_eq_true rfl), (Nat.le_of_ble_eq_true rfl)⟩) ⟨fm_blind, fm_pre hst hA hH⟩ rfl rfl hl.1 rfl (lv_room (Nat.le_of_ble_eq_true rfl)) dL_law_1278 ⟨by show _ ≤ 630926; omega, by show _ ≤ 7203325; omega⟩) hA hH (fun H locs hH => ?_)
        refine W.widen (k := ce + 1) (n := sl + 6) (by omega) (by omega) ?_
        refine lv_istore (lv' := [(5, .int r1278), (0, .ref b), (1, .ref (K.2.2.2 0)), (2, .ref (K.2.2.2 40)), (3, .ref (K.2.2.2 55)), (4, .int x4)]) hx hb dL_law_1281 hl (by decide) rfl (fun ls hl => ?_)
        refine lv_aload_n hx hb dL_law_1283 rfl (lv_at hl 3 rfl) ?_
        refine lv_aload_n hx hb dL_law_1284 rfl (lv_at hl 1 rfl) ?_
        refine lv_iload hx hb dL_law_1285 (lv_at hl 5 rfl) ?_
        refine lv_iconst (v := 1) hx hb dL_law_1287 (by decide) ?_
        refine lv_iadd hx hb dL_law_1288 ?_
        refine va_sld hx hb hX hbl hbA hH.2.2 hi46 dL_law_1289 ?_
        obtain ⟨r1290, σ1290, h1290, h⟩ := mi_b2 h
        refine fm_ci (va_runV (As := [.int (xs (x4 + (1 : Int32)).toNatClampNeg)]) (rest := []) C (kX5_spread l K h1290 _) (cwV 1 hts gL_law_X5_spread rfl rfl rfl (by decide +kernel) ⟨(Nat.le_of_ble_eq_true rfl), (Nat.le_of_ble_eq_true rfl)⟩) ⟨fm_blind, fm_recv hst hH (q := 40) (by decide) rfl (fm_ob_40 _ _) rfl, fm_pre hst hA hH⟩ rfl rfl hl.1 rfl (lv_room (Nat.le_of_ble_eq_true rfl)) dL_law_1290 ⟨by show _ ≤ 630926; omega, by show _ ≤ 7203325; omega⟩) hA hH (fun H locs hH => ?_)
        refine lv_istore (lv' := [(6, .int r1290), (5, .int r1278), (0, .ref b), (1, .ref (K.2.2.2 0)), (2, .ref (K.2.2.2 40)), (3, .ref (K.2.2.2 55)), (4, .int x4)]) hx hb dL_law_1293 hl (by decide) rfl (fun ls hl => ?_)
        refine lv_aload_n hx hb dL_law_1295 rfl (lv_at hl 4 rfl) ?_
        obtain ⟨r1296, h1296, h⟩ := mi_b1 h
        refine fm_ci (va_runV (As := []) (rest := []) C (kX5_thrown l K h1296 _) (cwV 0 hts gL_law_X5_thrown rfl rfl rfl (by decide +kernel) ⟨(Nat.le_of_ble_eq_true rfl), (Nat.le_of_ble_eq_true rfl)⟩) ⟨fm_blind, fm_recv hst hH (q := 40) (by decide) rfl (fm_ob_40 _ _) rfl, fm_pre hst hA hH⟩ rfl rfl hl.1 rfl (lv_room (Nat.le_of_ble_eq_true rfl)) dL_law_1296 ⟨by show _ ≤ 630926; omega, by show _ ≤ 7203325; omega⟩) hA hH (fun H locs hH => ?_)
        refine lv_iload hx hb dL_law_1299 (lv_at hl 1 rfl) ?_
        refine lv_icmp_eq (tgt := 1306) hx hb dL_law_1301 (by decide) (fun hc => ?_) (fun hc => ?_)
        · replace h := mi_pos hc h
          refine lv_iload hx hb dL_law_1306 (lv_at hl 1 rfl) ?_
          refine lv_if_ne (tgt := 1323) hx hb dL_law_1308 (by decide) (fun hc => ?_) (fun hc => ?_)
          · replace h := mi_neg hc h
            refine lv_goto (tgt := 1589) hx hb dL_law_1323 (by decide) ?_
            refine lv_iinc (v := (x4 + 4)) (lv' := [(4, .int (x4 + 4)), (6, .int r1290), (5, .int r1278), (0, .ref b), (1, .ref (K.2.2.2 0)), (2, .ref (K.2.2.2 40)), (3, .ref (K.2.2.2 55))]) hx hb dL_law_1589 hl (k := 6) rfl rfl (by decide) rfl (fun ls hl => ?_)
            refine lv_goto (tgt := 23) hx hb dL_law_1592 (by decide) ?_
            refine W.widen (k := ce + 8) (n := sl + 48) (by omega) (by omega) ?_
            exact ih _ _ _ _ (by omega) (by omega) h kk _ _ _ (lv_sub hl [3, 4, 5, 6, 0] rfl) hH
          · replace h := mi_pos hc h
            refine lv_aload_n hx hb dL_law_1311 rfl (lv_at hl 5 rfl) ?_
            refine lv_iconst (v := 0) hx hb dL_law_1312 (by decide) ?_
            obtain ⟨hi47, h⟩ := mi_chk h
            refine fm_lld hx hb hst.1 hH 55 (by decide) rfl rfl hi47 dL_law_1313 ?_
            refine lv_iload hx hb dL_law_1314 (lv_at hl 0 rfl) ?_
            refine lv_i2l (v := r1290.toInt64) hx hb dL_law_1316 rfl ?_
            refine W.lcmp hx hb dL_law_1317 ?_
            refine lv_if_eq (tgt := 1323) hx hb dL_law_1318 (by decide) (fun hc => ?_) (fun hc => ?_)
            · replace h := mi_pos hc h
              refine lv_goto (tgt := 1589) hx hb dL_law_1323 (by decide) ?_
              refine lv_iinc (v := (x4 + 4)) (lv' := [(4, .int (x4 + 4)), (6, .int r1290), (5, .int r1278), (0, .ref b), (1, .ref (K.2.2.2 0)), (2, .ref (K.2.2.2 40)), (3, .ref (K.2.2.2 55))]) hx hb dL_law_1589 hl (k := 6) rfl rfl (by decide) rfl (fun ls hl => ?_)
              refine lv_goto (tgt := 23) hx hb dL_law_1592 (by decide) ?_
              refine W.widen (k := ce + 8) (n := sl + 48) (by omega) (by omega) ?_
              exact ih _ _ _ _ (by omega) (by omega) h kk _ _ _ (lv_sub hl [3, 4, 5, 6, 0] rfl) hH
            · replace h := mi_neg hc h
              refine lv_iconst (v := 0) hx hb dL_law_1321 (by decide) ?_
              cases h
        · replace h := mi_neg hc h
          refine lv_iconst (v := 0) hx hb dL_law_1304 (by decide) ?_
          cases h
      have hk21 := hk
      clear hk
      replace h := mi_neg hk21 h
      by_cases hk : ((xs x4.toNatClampNeg) &&& (31 : Int32)) = 22
      · replace h := mi_pos hk h
        rw [hk]
        refine lv_tableIn (tgt := 1326) hx hb dL_law_39 (by decide) (by decide) rfl (by decide) ?_
        refine lv_aload_n hx hb dL_law_1326 rfl (lv_at hl 1 rfl) ?_
        refine lv_aload_n hx hb dL_law_1327 rfl (lv_at hl 0 rfl) ?_
        refine lv_iload hx hb dL_law_1328 (lv_at hl 4 rfl) ?_
        refine lv_iconst (v := 1) hx hb dL_law_1330 (by decide) ?_
        refine lv_iadd hx hb dL_law_1331 ?_
        obtain ⟨hi48, h⟩ := mi_chk h
        refine va_sld hx hb hX hbl hbA hH.2.2 hi48 dL_law_1332 ?_
        refine lv_aload_n hx hb dL_law_1333 rfl (lv_at hl 0 rfl) ?_
        refine lv_iload hx hb dL_law_1334 (lv_at hl 4 rfl) ?_
        refine lv_iconst (v := 2) hx hb dL_law_1336 (by decide) ?_
        refine lv_iadd hx hb dL_law_1337 ?_
        obtain ⟨hi49, h⟩ := mi_chk h
        refine va_sld hx hb hX hbl hbA hH.2.2 hi49 dL_law_1338 ?_
        refine lv_aload_n hx hb dL_law_1339 rfl (lv_at hl 0 rfl) ?_
        refine lv_iload hx hb dL_law_1340 (lv_at hl 4 rfl) ?_
        refine lv_iconst (v := 3) hx hb dL_law_1342 (by decide) ?_
        refine lv_iadd hx hb dL_law_1343 ?_
        obtain ⟨hi50, h⟩ := mi_chk h
        refine va_sld hx hb hX hbl hbA hH.2.2 hi50 dL_law_1344 ?_
        refine lv_aload_n hx hb dL_law_1345 rfl (lv_at hl 3 rfl) ?_
        obtain ⟨r1346, σ1346, h1346, h⟩ := mi_b2 h
        refine fm_ciW (vx_runSW (As := [.ref (K.2.2.2 0), .int (xs (x4 + (1 : Int32)).toNatClampNeg), .int (xs (x4 + (2 : Int32)).toNatClampNeg), .int (xs (x4 + (3 : Int32)).toNatClampNeg), .ref (K.2.2.2 55)]) (rest := []) C (kL_want l K hfl h1346 _) (vx_cwSW 5 hts gL_law_L_want rfl rfl rfl (by decide +kernel) ⟨(Nat.le_of_ble_eq_true rfl), (Nat.le_of_ble_eq_true rfl)⟩) ⟨fm_blind, fm_pre hst hA hH⟩ rfl rfl hl.1 rfl (lv_room (Nat.le_of_ble_eq_true rfl)) dL_law_1346 ⟨by show _ ≤ 630926; omega, by show _ ≤ 7203325; omega⟩) hA hH (fun H locs hH => ?_)
        refine W.widen (k := ce + 4) (n := sl + 24) (by omega) (by omega) ?_
        refine lv_istore (lv' := [(5, .int r1346), (0, .ref b), (1, .ref (K.2.2.2 0)), (2, .ref (K.2.2.2 40)), (3, .ref (K.2.2.2 55)), (4, .int x4)]) hx hb dL_law_1349 hl (by decide) rfl (fun ls hl => ?_)
        refine lv_aload_n hx hb dL_law_1351 rfl (lv_at hl 3 rfl) ?_
        refine lv_aload_n hx hb dL_law_1352 rfl (lv_at hl 1 rfl) ?_
        refine lv_iload hx hb dL_law_1353 (lv_at hl 5 rfl) ?_
        refine lv_iconst (v := 1) hx hb dL_law_1355 (by decide) ?_
        refine lv_iadd hx hb dL_law_1356 ?_
        refine va_sld hx hb hX hbl hbA hH.2.2 hi48 dL_law_1357 ?_
        refine lv_aload_n hx hb dL_law_1358 rfl (lv_at hl 1 rfl) ?_
        refine lv_iload hx hb dL_law_1359 (lv_at hl 5 rfl) ?_
        refine lv_iconst (v := 2) hx hb dL_law_1361 (by decide) ?_
        refine lv_iadd hx hb dL_law_1362 ?_
        refine va_sld hx hb hX hbl hbA hH.2.2 hi49 dL_law_1363 ?_
        refine lv_aload_n hx hb dL_law_1364 rfl (lv_at hl 1 rfl) ?_
        refine lv_iload hx hb dL_law_1365 (lv_at hl 5 rfl) ?_
        refine lv_iconst (v := 3) hx hb dL_law_1367 (by decide) ?_
        refine lv_iadd hx hb dL_law_1368 ?_
        refine va_sld hx hb hX hbl hbA hH.2.2 hi50 dL_law_1369 ?_
        obtain ⟨r1370, σ1370, h1370, h⟩ := mi_b2 h
        refine fm_ci (va_runV (As := [.int (xs (x4 + (1 : Int32)).toNatClampNeg), .int (xs (x4 + (2 : Int32)).toNatClampNeg), .int (xs (x4 + (3 : Int32)).toNatClampNeg)]) (rest := []) C (kX5_want l K h1370 _) (cwV 3 hts gL_law_X5_want rfl rfl rfl (by decide +kernel) ⟨(Nat.le_of_ble_eq_true rfl), (Nat.le_of_ble_eq_true rfl)⟩) ⟨fm_blind, fm_recv hst hH (q := 40) (by decide) rfl (fm_ob_40 _ _) rfl, fm_pre hst hA hH⟩ rfl rfl hl.1 rfl (lv_room (Nat.le_of_ble_eq_true rfl)) dL_law_1370 ⟨by show _ ≤ 630926; omega, by show _ ≤ 7203325; omega⟩) hA hH (fun H locs hH => ?_)
        refine lv_istore (lv' := [(6, .int r1370), (5, .int r1346), (0, .ref b), (1, .ref (K.2.2.2 0)), (2, .ref (K.2.2.2 40)), (3, .ref (K.2.2.2 55)), (4, .int x4)]) hx hb dL_law_1373 hl (by decide) rfl (fun ls hl => ?_)
        refine lv_aload_n hx hb dL_law_1375 rfl (lv_at hl 4 rfl) ?_
        obtain ⟨r1376, h1376, h⟩ := mi_b1 h
        refine fm_ci (va_runV (As := []) (rest := []) C (kX5_thrown l K h1376 _) (cwV 0 hts gL_law_X5_thrown rfl rfl rfl (by decide +kernel) ⟨(Nat.le_of_ble_eq_true rfl), (Nat.le_of_ble_eq_true rfl)⟩) ⟨fm_blind, fm_recv hst hH (q := 40) (by decide) rfl (fm_ob_40 _ _) rfl, fm_pre hst hA hH⟩ rfl rfl hl.1 rfl (lv_room (Nat.le_of_ble_eq_true rfl)) dL_law_1376 ⟨by show _ ≤ 630926; omega, by show _ ≤ 7203325; omega⟩) hA hH (fun H locs hH => ?_)
        refine lv_iload hx hb dL_law_1379 (lv_at hl 1 rfl) ?_
        refine lv_icmp_eq (tgt := 1386) hx hb dL_law_1381 (by decide) (fun hc => ?_) (fun hc => ?_)
        · replace h := mi_pos hc h
          refine lv_iload hx hb dL_law_1386 (lv_at hl 1 rfl) ?_
          refine lv_if_ne (tgt := 1403) hx hb dL_law_1388 (by decide) (fun hc => ?_) (fun hc => ?_)
          · replace h := mi_neg hc h
            refine lv_goto (tgt := 1589) hx hb dL_law_1403 (by decide) ?_
            refine lv_iinc (v := (x4 + 4)) (lv' := [(4, .int (x4 + 4)), (6, .int r1370), (5, .int r1346), (0, .ref b), (1, .ref (K.2.2.2 0)), (2, .ref (K.2.2.2 40)), (3, .ref (K.2.2.2 55))]) hx hb dL_law_1589 hl (k := 6) rfl rfl (by decide) rfl (fun ls hl => ?_)
            refine lv_goto (tgt := 23) hx hb dL_law_1592 (by decide) ?_
            refine W.widen (k := ce + 8) (n := sl + 48) (by omega) (by omega) ?_
            exact ih _ _ _ _ (by omega) (by omega) h kk _ _ _ (lv_sub hl [3, 4, 5, 6, 0] rfl) hH
          · replace h := mi_pos hc h
            refine lv_aload_n hx hb dL_law_1391 rfl (lv_at hl 5 rfl) ?_
            refine lv_iconst (v := 0) hx hb dL_law_1392 (by decide) ?_
            obtain ⟨hi51, h⟩ := mi_chk h
            refine fm_lld hx hb hst.1 hH 55 (by decide) rfl rfl hi51 dL_law_1393 ?_
            refine lv_iload hx hb dL_law_1394 (lv_at hl 0 rfl) ?_
            refine lv_i2l (v := r1370.toInt64) hx hb dL_law_1396 rfl ?_
            refine W.lcmp hx hb dL_law_1397 ?_
            refine lv_if_eq (tgt := 1403) hx hb dL_law_1398 (by decide) (fun hc => ?_) (fun hc => ?_)
            · replace h := mi_pos hc h
              refine lv_goto (tgt := 1589) hx hb dL_law_1403 (by decide) ?_
              refine lv_iinc (v := (x4 + 4)) (lv' := [(4, .int (x4 + 4)), (6, .int r1370), (5, .int r1346), (0, .ref b), (1, .ref (K.2.2.2 0)), (2, .ref (K.2.2.2 40)), (3, .ref (K.2.2.2 55))]) hx hb dL_law_1589 hl (k := 6) rfl rfl (by decide) rfl (fun ls hl => ?_)
              refine lv_goto (tgt := 23) hx hb dL_law_1592 (by decide) ?_
              refine W.widen (k := ce + 8) (n := sl + 48) (by omega) (by omega) ?_
              exact ih _ _ _ _ (by omega) (by omega) h kk _ _ _ (lv_sub hl [3, 4, 5, 6, 0] rfl) hH
            · replace h := mi_neg hc h
              refine lv_iconst (v := 0) hx hb dL_law_1401 (by decide) ?_
              cases h
        · replace h := mi_neg hc h
          refine lv_iconst (v := 0) hx hb dL_law_1384 (by decide) ?_
          cases h
      have hk22 := hk
      clear hk
      replace h := mi_neg hk22 h
      by_cases hk : ((xs x4.toNatClampNeg) &&& (31 : Int32)) = 23
      · replace h := mi_pos hk h
        rw [hk]
        refine lv_tableIn (tgt := 1406) hx hb dL_law_39 (by decide) (by decide) rfl (by decide) ?_
        refine lv_aload_n hx hb dL_law_1406 rfl (lv_at hl 1 rfl) ?_
        obtain ⟨r1407, σ1407, h1407, h⟩ := mi_b2 h
        refine fm_ci (va_runV (As := []) (rest := []) C (kX4_error l K h1407 _) (cwV 0 hts gL_law_X4_error rfl rfl rfl (by decide +kernel) ⟨(Nat.le_of_ble_eq_true rfl), (Nat.le_of_ble_eq_true rfl)⟩) ⟨fm_blind, fm_recv hst hH (q := 0) (by decide) rfl (fm_ob_0 _ _) rfl, fm_pre hst hA hH⟩ rfl rfl hl.1 rfl (lv_room (Nat.le_of_ble_eq_true rfl)) dL_law_1407 ⟨by show _ ≤ 630926; omega, by show _ ≤ 7203325; omega⟩) hA hH (fun H locs hH => ?_)
        refine lv_aload_n hx hb dL_law_1410 rfl (lv_at hl 2 rfl) ?_
        obtain ⟨r1411, σ1411, h1411, h⟩ := mi_b2 h
        refine fm_ci (va_runV (As := []) (rest := [.int r1407]) C (kX5_error l K h1411 _) (cwV 0 hts gL_law_X5_error rfl rfl rfl (by decide +kernel) ⟨(Nat.le_of_ble_eq_true rfl), (Nat.le_of_ble_eq_true rfl)⟩) ⟨fm_blind, fm_recv hst hH (q := 40) (by decide) rfl (fm_ob_40 _ _) rfl, fm_pre hst hA hH⟩ rfl rfl hl.1 rfl (lv_room (Nat.le_of_ble_eq_true rfl)) dL_law_1411 ⟨by show _ ≤ 630926; omega, by show _ ≤ 7203325; omega⟩) hA hH (fun H locs hH => ?_)
        refine lv_icmp_eq (tgt := 1589) hx hb dL_law_1414 (by decide) (fun hc => ?_) (fun hc => ?_)
        · replace h := mi_pos hc h
          refine lv_iinc (v := (x4 + 4)) (lv' := [(4, .int (x4 + 4)), (0, .ref b), (1, .ref (K.2.2.2 0)), (2, .ref (K.2.2.2 40)), (3, .ref (K.2.2.2 55))]) hx hb dL_law_1589 hl (k := 4) rfl rfl (by decide) rfl (fun ls hl => ?_)
          refine lv_goto (tgt := 23) hx hb dL_law_1592 (by decide) ?_
          refine W.widen (k := ce + 8) (n := sl + 48) (by omega) (by omega) ?_
          exact ih _ _ _ _ (by omega) (by omega) h kk _ _ _ (lv_sub hl [1, 2, 3, 4, 0] rfl) hH
        · replace h := mi_neg hc h
          refine lv_iconst (v := 0) hx hb dL_law_1417 (by decide) ?_
          cases h
      have hk23 := hk
      clear hk
      replace h := mi_neg hk23 h
      by_cases hk : ((xs x4.toNatClampNeg) &&& (31 : Int32)) = 24
      · replace h := mi_pos hk h
        rw [hk]
        refine lv_tableIn (tgt := 1419) hx hb dL_law_39 (by decide) (by decide) rfl (by decide) ?_
        refine lv_aload_n hx hb dL_law_1419 rfl (lv_at hl 1 rfl) ?_
        refine lv_aload_n hx hb dL_law_1420 rfl (lv_at hl 0 rfl) ?_
        refine lv_iload hx hb dL_law_1421 (lv_at hl 4 rfl) ?_
        refine lv_iconst (v := 1) hx hb dL_law_1423 (by decide) ?_
        refine lv_iadd hx hb dL_law_1424 ?_
        obtain ⟨hi52, h⟩ := mi_chk h
        refine va_sld hx hb hX hbl hbA hH.2.2 hi52 dL_law_1425 ?_
        refine lv_aload_n hx hb dL_law_1426 rfl (lv_at hl 3 rfl) ?_
        obtain ⟨r1427, σ1427, h1427, h⟩ := mi_b2 h
        refine fm_ciW (vx_runSW (As := [.ref (K.2.2.2 0), .int (xs (x4 + (1 : Int32)).toNatClampNeg), .ref (K.2.2.2 55)]) (rest := []) C (kL_settle l K hfl h1427 _) (vx_cwSW 3 hts gL_law_L_settle rfl rfl rfl (by decide +kernel) ⟨(Nat.le_of_ble_eq_true rfl), (Nat.le_of_ble_eq_true rfl)⟩) ⟨fm_blind, fm_pre hst hA hH⟩ rfl rfl hl.1 rfl (lv_room (Nat.le_of_ble_eq_true rfl)) dL_law_1427 ⟨by show _ ≤ 630926; omega, by show _ ≤ 7203325; omega⟩) hA hH (fun H locs hH => ?_)
        refine W.widen (k := ce + 1) (n := sl + 6) (by omega) (by omega) ?_
        refine lv_istore (lv' := [(5, .int r1427), (0, .ref b), (1, .ref (K.2.2.2 0)), (2, .ref (K.2.2.2 40)), (3, .ref (K.2.2.2 55)), (4, .int x4)]) hx hb dL_law_1430 hl (by decide) rfl (fun ls hl => ?_)
        refine lv_aload_n hx hb dL_law_1432 rfl (lv_at hl 3 rfl) ?_
        refine lv_aload_n hx hb dL_law_1433 rfl (lv_at hl 1 rfl) ?_
        refine lv_iload hx hb dL_law_1434 (lv_at hl 5 rfl) ?_
        refine lv_iconst (v := 1) hx hb dL_law_1436 (by decide) ?_
        refine lv_iadd hx hb dL_law_1437 ?_
        refine va_sld hx hb hX hbl hbA hH.2.2 hi52 dL_law_1438 ?_
        obtain ⟨r1439, σ1439, h1439, h⟩ := mi_b2 h
        refine fm_ci (va_runV (As := [.int (xs (x4 + (1 : Int32)).toNatClampNeg)]) (rest := []) C (kX5_settle l K h1439 _) (cwV 1 hts gL_law_X5_settle rfl rfl rfl (by decide +kernel) ⟨(Nat.le_of_ble_eq_true rfl), (Nat.le_of_ble_eq_true rfl)⟩) ⟨fm_blind, fm_recv hst hH (q := 40) (by decide) rfl (fm_ob_40 _ _) rfl, fm_pre hst hA hH⟩ rfl rfl hl.1 rfl (lv_room (Nat.le_of_ble_eq_true rfl)) dL_law_1439 ⟨by show _ ≤ 630926; omega, by show _ ≤ 7203325; omega⟩) hA hH (fun H locs hH => ?_)
        refine lv_istore (lv' := [(6, .int r1439), (5, .int r1427), (0, .ref b), (1, .ref (K.2.2.2 0)), (2, .ref (K.2.2.2 40)), (3, .ref (K.2.2.2 55)), (4, .int x4)]) hx hb dL_law_1442 hl (by decide) rfl (fun ls hl => ?_)
        refine lv_aload_n hx hb dL_law_1444 rfl (lv_at hl 4 rfl) ?_
        obtain ⟨r1445, h1445, h⟩ := mi_b1 h
        refine fm_ci (va_runV (As := []) (rest := []) C (kX5_thrown l K h1445 _) (cwV 0 hts gL_law_X5_thrown rfl rfl rfl (by decide +kernel) ⟨(Nat.le_of_ble_eq_true rfl), (Nat.le_of_ble_eq_true rfl)⟩) ⟨fm_blind, fm_recv hst hH (q := 40) (by decide) rfl (fm_ob_40 _ _) rfl, fm_pre hst hA hH⟩ rfl rfl hl.1 rfl (lv_room (Nat.le_of_ble_eq_true rfl)) dL_law_1445 ⟨by show _ ≤ 630926; omega, by show _ ≤ 7203325; omega⟩) hA hH (fun H locs hH => ?_)
        refine lv_iload hx hb dL_law_1448 (lv_at hl 1 rfl) ?_
        refine lv_icmp_eq (tgt := 1455) hx hb dL_law_1450 (by decide) (fun hc => ?_) (fun hc => ?_)
        · replace h := mi_pos hc h
          refine lv_iload hx hb dL_law_1455 (lv_at hl 1 rfl) ?_
          refine lv_if_ne (tgt := 1472) hx hb dL_law_1457 (by decide) (fun hc => ?_) (fun hc => ?_)
          · replace h := mi_neg hc h
            refine lv_goto (tgt := 1589) hx hb dL_law_1472 (by decide) ?_
            refine lv_iinc (v := (x4 + 4)) (lv' := [(4, .int (x4 + 4)), (6, .int r1439), (5, .int r1427), (0, .ref b), (1, .ref (K.2.2.2 0)), (2, .ref (K.2.2.2 40)), (3, .ref (K.2.2.2 55))]) hx hb dL_law_1589 hl (k := 6) rfl rfl (by decide) rfl (fun ls hl => ?_)
            refine lv_goto (tgt := 23) hx hb dL_law_1592 (by decide) ?_
            refine W.widen (k := ce + 8) (n := sl + 48) (by omega) (by omega) ?_
            exact ih _ _ _ _ (by omega) (by omega) h kk _ _ _ (lv_sub hl [3, 4, 5, 6, 0] rfl) hH
          · replace h := mi_pos hc h
            refine lv_aload_n hx hb dL_law_1460 rfl (lv_at hl 5 rfl) ?_
            refine lv_iconst (v := 0) hx hb dL_law_1461 (by decide) ?_
            obtain ⟨hi53, h⟩ := mi_chk h
            refine fm_lld hx hb hst.1 hH 55 (by decide) rfl rfl hi53 dL_law_1462 ?_
            refine lv_iload hx hb dL_law_1463 (lv_at hl 0 rfl) ?_
            refine lv_i2l (v := r1439.toInt64) hx hb dL_law_1465 rfl ?_
            refine W.lcmp hx hb dL_law_1466 ?_
            refine lv_if_eq (tgt := 1472) hx hb dL_law_1467 (by decide) (fun hc => ?_) (fun hc => ?_)
            · replace h := mi_pos hc h
              refine lv_goto (tgt := 1589) hx hb dL_law_1472 (by decide) ?_
              refine lv_iinc (v := (x4 + 4)) (lv' := [(4, .int (x4 + 4)), (6, .int r1439), (5, .int r1427), (0, .ref b), (1, .ref (K.2.2.2 0)), (2, .ref (K.2.2.2 40)), (3, .ref (K.2.2.2 55))]) hx hb dL_law_1589 hl (k := 6) rfl rfl (by decide) rfl (fun ls hl => ?_)
              refine lv_goto (tgt := 23) hx hb dL_law_1592 (by decide) ?_
              refine W.widen (k := ce + 8) (n := sl + 48) (by omega) (by omega) ?_
              exact ih _ _ _ _ (by omega) (by omega) h kk _ _ _ (lv_sub hl [3, 4, 5, 6, 0] rfl) hH
            · replace h := mi_neg hc h
              refine lv_iconst (v := 0) hx hb dL_law_1470 (by decide) ?_
              cases h
        · replace h := mi_neg hc h
          refine lv_iconst (v := 0) hx hb dL_law_1453 (by decide) ?_
          cases h
      have hk24 := hk
      clear hk
      replace h := mi_neg hk24 h
      by_cases hk : ((xs x4.toNatClampNeg) &&& (31 : Int32)) = 25
      · replace h := mi_pos hk h
        rw [hk]
        refine lv_tableIn (tgt := 1475) hx hb dL_law_39 (by decide) (by decide) rfl (by decide) ?_
        refine lv_aload_n hx hb dL_law_1475 rfl (lv_at hl 1 rfl) ?_
        obtain ⟨r1476, σ1476, h1476, h⟩ := mi_b2 h
        refine fm_ci (va_runV (As := []) (rest := []) C (kX4_rank l K h1476 _) (cwV 0 hts gL_law_X4_rank rfl rfl rfl (by decide +kernel) ⟨(Nat.le_of_ble_eq_true rfl), (Nat.le_of_ble_eq_true rfl)⟩) ⟨fm_blind, fm_recv hst hH (q := 0) (by decide) rfl (fm_ob_0 _ _) rfl, fm_pre hst hA hH⟩ rfl rfl hl.1 rfl (lv_room (Nat.le_of_ble_eq_true rfl)) dL_law_1476 ⟨by show _ ≤ 630926; omega, by show _ ≤ 7203325; omega⟩) hA hH (fun H locs hH => ?_)
        refine lv_aload_n hx hb dL_law_1479 rfl (lv_at hl 2 rfl) ?_
        obtain ⟨r1480, σ1480, h1480, h⟩ := mi_b2 h
        refine fm_ci (va_runV (As := []) (rest := [.int r1476]) C (kX5_rank l K h1480 _) (cwV 0 hts gL_law_X5_rank rfl rfl rfl (by decide +kernel) ⟨(Nat.le_of_ble_eq_true rfl), (Nat.le_of_ble_eq_true rfl)⟩) ⟨fm_blind, fm_recv hst hH (q := 40) (by decide) rfl (fm_ob_40 _ _) rfl, fm_pre hst hA hH⟩ rfl rfl hl.1 rfl (lv_room (Nat.le_of_ble_eq_true rfl)) dL_law_1480 ⟨by show _ ≤ 630926; omega, by show _ ≤ 7203325; omega⟩) hA hH (fun H locs hH => ?_)
        refine lv_icmp_eq (tgt := 1589) hx hb dL_law_1483 (by decide) (fun hc => ?_) (fun hc => ?_)
        · replace h := mi_pos hc h
          refine lv_iinc (v := (x4 + 4)) (lv' := [(4, .int (x4 + 4)), (0, .ref b), (1, .ref (K.2.2.2 0)), (2, .ref (K.2.2.2 40)), (3, .ref (K.2.2.2 55))]) hx hb dL_law_1589 hl (k := 4) rfl rfl (by decide) rfl (fun ls hl => ?_)
          refine lv_goto (tgt := 23) hx hb dL_law_1592 (by decide) ?_
          refine W.widen (k := ce + 8) (n := sl + 48) (by omega) (by omega) ?_
          exact ih _ _ _ _ (by omega) (by omega) h kk _ _ _ (lv_sub hl [1, 2, 3, 4, 0] rfl) hH
        · replace h := mi_neg hc h
          refine lv_iconst (v := 0) hx hb dL_law_1486 (by decide) ?_
          cases h
      have hk25 := hk
      clear hk
      replace h := mi_neg hk25 h
      by_cases hk : ((xs x4.toNatClampNeg) &&& (31 : Int32)) = 26
      · replace h := mi_pos hk h
        rw [hk]
        refine lv_tableIn (tgt := 1488) hx hb dL_law_39 (by decide) (by decide) rfl (by decide) ?_
        refine lv_aload_n hx hb dL_law_1488 rfl (lv_at hl 1 rfl) ?_
        obtain ⟨r1489, σ1489, h1489, h⟩ := mi_b2 h
        refine fm_ci (va_runV (As := []) (rest := []) C (kX4_rankByCounting l K h1489 _) (cwV 0 hts gL_law_X4_rankByCounting rfl rfl rfl (by decide +kernel) ⟨(Nat.le_of_ble_eq_true rfl), (Nat.le_of_ble_eq_true rfl)⟩) ⟨fm_blind, fm_recv hst hH (q := 0) (by decide) rfl (fm_ob_0 _ _) rfl, fm_pre hst hA hH⟩ rfl rfl hl.1 rfl (lv_room (Nat.le_of_ble_eq_true rfl)) dL_law_1489 ⟨by show _ ≤ 630926; omega, by show _ ≤ 7203325; omega⟩) hA hH (fun H locs hH => ?_)
        refine lv_aload_n hx hb dL_law_1492 rfl (lv_at hl 2 rfl) ?_
        obtain ⟨r1493, σ1493, h1493, h⟩ := mi_b2 h
        refine fm_ci (va_runV (As := []) (rest := [.int r1489]) C (kX5_rankByCounting l K h1493 _) (cwV 0 hts gL_law_X5_rankByCounting rfl rfl rfl (by decide +kernel) ⟨(Nat.le_of_ble_eq_true rfl), (Nat.le_of_ble_eq_true rfl)⟩) ⟨fm_blind, fm_recv hst hH (q := 40) (by decide) rfl (fm_ob_40 _ _) rfl, fm_pre hst hA hH⟩ rfl rfl hl.1 rfl (lv_room (Nat.le_of_ble_eq_true rfl)) dL_law_1493 ⟨by show _ ≤ 630926; omega, by show _ ≤ 7203325; omega⟩) hA hH (fun H locs hH => ?_)
        refine lv_icmp_eq (tgt := 1589) hx hb dL_law_1496 (by decide) (fun hc => ?_) (fun hc => ?_)
        · replace h := mi_pos hc h
          refine lv_iinc (v := (x4 + 4)) (lv' := [(4, .int (x4 + 4)), (0, .ref b), (1, .ref (K.2.2.2 0)), (2, .ref (K.2.2.2 40)), (3, .ref (K.2.2.2 55))]) hx hb dL_law_1589 hl (k := 4) rfl rfl (by decide) rfl (fun ls hl => ?_)
          refine lv_goto (tgt := 23) hx hb dL_law_1592 (by decide) ?_
          refine W.widen (k := ce + 8) (n := sl + 48) (by omega) (by omega) ?_
          exact ih _ _ _ _ (by omega) (by omega) h kk _ _ _ (lv_sub hl [1, 2, 3, 4, 0] rfl) hH
        · replace h := mi_neg hc h
          refine lv_iconst (v := 0) hx hb dL_law_1499 (by decide) ?_
          cases h
      have hk26 := hk
      clear hk
      replace h := mi_neg hk26 h
      by_cases hk : ((xs x4.toNatClampNeg) &&& (31 : Int32)) = 27
      · replace h := mi_pos hk h
        rw [hk]
        refine lv_tableIn (tgt := 1501) hx hb dL_law_39 (by decide) (by decide) rfl (by decide) ?_
        refine lv_aload_n hx hb dL_law_1501 rfl (lv_at hl 1 rfl) ?_
        obtain ⟨r1502, σ1502, h1502, h⟩ := mi_b2 h
        refine fm_ci (va_runV (As := []) (rest := []) C (kX4_isRigid l K h1502 _) (cwV 0 hts gL_law_X4_isRigid rfl rfl rfl (by decide +kernel) ⟨(Nat.le_of_ble_eq_true rfl), (Nat.le_of_ble_eq_true rfl)⟩) ⟨fm_blind, fm_recv hst hH (q := 0) (by decide) rfl (fm_ob_0 _ _) rfl, fm_pre hst hA hH⟩ rfl rfl hl.1 rfl (lv_room (Nat.le_of_ble_eq_true rfl)) dL_law_1502 ⟨by show _ ≤ 630926; omega, by show _ ≤ 7203325; omega⟩) hA hH (fun H locs hH => ?_)
        refine lv_aload_n hx hb dL_law_1505 rfl (lv_at hl 2 rfl) ?_
        obtain ⟨r1506, σ1506, h1506, h⟩ := mi_b2 h
        refine fm_ci (va_runV (As := []) (rest := [.int r1502]) C (kX5_isRigid l K h1506 _) (cwV 0 hts gL_law_X5_isRigid rfl rfl rfl (by decide +kernel) ⟨(Nat.le_of_ble_eq_true rfl), (Nat.le_of_ble_eq_true rfl)⟩) ⟨fm_blind, fm_recv hst hH (q := 40) (by decide) rfl (fm_ob_40 _ _) rfl, fm_pre hst hA hH⟩ rfl rfl hl.1 rfl (lv_room (Nat.le_of_ble_eq_true rfl)) dL_law_1506 ⟨by show _ ≤ 630926; omega, by show _ ≤ 7203325; omega⟩) hA hH (fun H locs hH => ?_)
        refine lv_icmp_eq (tgt := 1589) hx hb dL_law_1509 (by decide) (fun hc => ?_) (fun hc => ?_)
        · replace h := mi_pos hc h
          refine lv_iinc (v := (x4 + 4)) (lv' := [(4, .int (x4 + 4)), (0, .ref b), (1, .ref (K.2.2.2 0)), (2, .ref (K.2.2.2 40)), (3, .ref (K.2.2.2 55))]) hx hb dL_law_1589 hl (k := 4) rfl rfl (by decide) rfl (fun ls hl => ?_)
          refine lv_goto (tgt := 23) hx hb dL_law_1592 (by decide) ?_
          refine W.widen (k := ce + 8) (n := sl + 48) (by omega) (by omega) ?_
          exact ih _ _ _ _ (by omega) (by omega) h kk _ _ _ (lv_sub hl [1, 2, 3, 4, 0] rfl) hH
        · replace h := mi_neg hc h
          refine lv_iconst (v := 0) hx hb dL_law_1512 (by decide) ?_
          cases h
      have hk27 := hk
      clear hk
      replace h := mi_neg hk27 h
      by_cases hk : ((xs x4.toNatClampNeg) &&& (31 : Int32)) = 28
      · replace h := mi_pos hk h
        rw [hk]
        refine lv_tableIn (tgt := 1514) hx hb dL_law_39 (by decide) (by decide) rfl (by decide) ?_
        refine lv_aload_n hx hb dL_law_1514 rfl (lv_at hl 1 rfl) ?_
        refine lv_aload_n hx hb dL_law_1515 rfl (lv_at hl 0 rfl) ?_
        refine lv_iload hx hb dL_law_1516 (lv_at hl 4 rfl) ?_
        refine lv_iconst (v := 1) hx hb dL_law_1518 (by decide) ?_
        refine lv_iadd hx hb dL_law_1519 ?_
        obtain ⟨hi54, h⟩ := mi_chk h
        refine va_sld hx hb hX hbl hbA hH.2.2 hi54 dL_law_1520 ?_
        refine lv_aload_n hx hb dL_law_1521 rfl (lv_at hl 0 rfl) ?_
        refine lv_iload hx hb dL_law_1522 (lv_at hl 4 rfl) ?_
        refine lv_iconst (v := 2) hx hb dL_law_1524 (by decide) ?_
        refine lv_iadd hx hb dL_law_1525 ?_
        obtain ⟨hi55, h⟩ := mi_chk h
        refine va_sld hx hb hX hbl hbA hH.2.2 hi55 dL_law_1526 ?_
        refine lv_aload_n hx hb dL_law_1527 rfl (lv_at hl 3 rfl) ?_
        obtain ⟨r1528, σ1528, h1528, h⟩ := mi_b2 h
        refine fm_ciW (vx_runSW (As := [.ref (K.2.2.2 0), .int (xs (x4 + (1 : Int32)).toNatClampNeg), .int (xs (x4 + (2 : Int32)).toNatClampNeg), .ref (K.2.2.2 55)]) (rest := []) C (kL_isSpare l K hfl h1528 _) (vx_cwSW 4 hts gL_law_L_isSpare rfl rfl rfl (by decide +kernel) ⟨(Nat.le_of_ble_eq_true rfl), (Nat.le_of_ble_eq_true rfl)⟩) ⟨fm_blind, fm_pre hst hA hH⟩ rfl rfl hl.1 rfl (lv_room (Nat.le_of_ble_eq_true rfl)) dL_law_1528 ⟨by show _ ≤ 630926; omega, by show _ ≤ 7203325; omega⟩) hA hH (fun H locs hH => ?_)
        refine W.widen (k := ce + 3) (n := sl + 18) (by omega) (by omega) ?_
        refine lv_istore (lv' := [(5, .int r1528), (0, .ref b), (1, .ref (K.2.2.2 0)), (2, .ref (K.2.2.2 40)), (3, .ref (K.2.2.2 55)), (4, .int x4)]) hx hb dL_law_1531 hl (by decide) rfl (fun ls hl => ?_)
        refine lv_aload_n hx hb dL_law_1533 rfl (lv_at hl 3 rfl) ?_
        refine lv_aload_n hx hb dL_law_1534 rfl (lv_at hl 1 rfl) ?_
        refine lv_iload hx hb dL_law_1535 (lv_at hl 5 rfl) ?_
        refine lv_iconst (v := 1) hx hb dL_law_1537 (by decide) ?_
        refine lv_iadd hx hb dL_law_1538 ?_
        refine va_sld hx hb hX hbl hbA hH.2.2 hi54 dL_law_1539 ?_
        refine lv_aload_n hx hb dL_law_1540 rfl (lv_at hl 1 rfl) ?_
        refine lv_iload hx hb dL_law_1541 (lv_at hl 5 rfl) ?_
        refine lv_iconst (v := 2) hx hb dL_law_1543 (by decide) ?_
        refine lv_iadd hx hb dL_law_1544 ?_
        refine va_sld hx hb hX hbl hbA hH.2.2 hi55 dL_law_1545 ?_
        obtain ⟨r1546, σ1546, h1546, h⟩ := mi_b2 h
        refine fm_ci (va_runV (As := [.int (xs (x4 + (1 : Int32)).toNatClampNeg), .int (xs (x4 + (2 : Int32)).toNatClampNeg)]) (rest := []) C (kX5_isSpare l K h1546 _) (cwV 2 hts gL_law_X5_isSpare rfl rfl rfl (by decide +kernel) ⟨(Nat.le_of_ble_eq_true rfl), (Nat.le_of_ble_eq_true rfl)⟩) ⟨fm_blind, fm_recv hst hH (q := 40) (by decide) rfl (fm_ob_40 _ _) rfl, fm_pre hst hA hH⟩ rfl rfl hl.1 rfl (lv_room (Nat.le_of_ble_eq_true rfl)) dL_law_1546 ⟨by show _ ≤ 630926; omega, by show _ ≤ 7203325; omega⟩) hA hH (fun H locs hH => ?_)
        refine lv_istore (lv' := [(6, .int r1546), (5, .int r1528), (0, .ref b), (1, .ref (K.2.2.2 0)), (2, .ref (K.2.2.2 40)), (3, .ref (K.2.2.2 55)), (4, .int x4)]) hx hb dL_law_1549 hl (by decide) rfl (fun ls hl => ?_)
        refine lv_aload_n hx hb dL_law_1551 rfl (lv_at hl 4 rfl) ?_
        obtain ⟨r1552, h1552, h⟩ := mi_b1 h
        refine fm_ci (va_runV (As := []) (rest := []) C (kX5_thrown l K h1552 _) (cwV 0 hts gL_law_X5_thrown rfl rfl rfl (by decide +kernel) ⟨(Nat.le_of_ble_eq_true rfl), (Nat.le_of_ble_eq_true rfl)⟩) ⟨fm_blind, fm_recv hst hH (q := 40) (by decide) rfl (fm_ob_40 _ _) rfl, fm_pre hst hA hH⟩ rfl rfl hl.1 rfl (lv_room (Nat.le_of_ble_eq_true rfl)) dL_law_1552 ⟨by show _ ≤ 630926; omega, by show _ ≤ 7203325; omega⟩) hA hH (fun H locs hH => ?_)
        refine lv_iload hx hb dL_law_1555 (lv_at hl 1 rfl) ?_
        refine lv_icmp_eq (tgt := 1562) hx hb dL_law_1557 (by decide) (fun hc => ?_) (fun hc => ?_)
        · replace h := mi_pos hc h
          refine lv_iload hx hb dL_law_1562 (lv_at hl 1 rfl) ?_
          refine lv_if_ne (tgt := 1586) hx hb dL_law_1564 (by decide) (fun hc => ?_) (fun hc => ?_)
          · replace h := mi_neg hc h
            refine lv_goto (tgt := 1589) hx hb dL_law_1586 (by decide) ?_
            refine lv_iinc (v := (x4 + 4)) (lv' := [(4, .int (x4 + 4)), (6, .int r1546), (5, .int r1528), (0, .ref b), (1, .ref (K.2.2.2 0)), (2, .ref (K.2.2.2 40)), (3, .ref (K.2.2.2 55))]) hx hb dL_law_1589 hl (k := 6) rfl rfl (by decide) rfl (fun ls hl => ?_)
            refine lv_goto (tgt := 23) hx hb dL_law_1592 (by decide) ?_
            refine W.widen (k := ce + 8) (n := sl + 48) (by omega) (by omega) ?_
            exact ih _ _ _ _ (by omega) (by omega) h kk _ _ _ (lv_sub hl [3, 4, 5, 6, 0] rfl) hH
          · replace h := mi_pos hc h
            refine lv_aload_n hx hb dL_law_1567 rfl (lv_at hl 5 rfl) ?_
            refine lv_iconst (v := 0) hx hb dL_law_1568 (by decide) ?_
            obtain ⟨hi56, h⟩ := mi_chk h
            refine fm_lld hx hb hst.1 hH 55 (by decide) rfl rfl hi56 dL_law_1569 ?_
            refine lv_iload hx hb dL_law_1570 (lv_at hl 0 rfl) ?_
            obtain ⟨v57_0, hd, h2⟩ := mi_b1 h
            have kj : ∀ (ls : Array Slot) (H : Heap) (locs : List Loc), lv_has ls 7 [(0, .ref b), (1, .ref (K.2.2.2 0)), (2, .ref (K.2.2.2 40)), (3, .ref (K.2.2.2 55)), (4, .int x4)] → fm_H K σ1546 A s H locs → W p l e room_1 s m args below meth c H locs (ce + 3) (sl + 18) Q (F0 m 1580 ls [.long v57_0, .long (rL σ1546 55 (0 : Int32))]) := by
              clear h hd
              intro ls H locs hl hH
              have h := h2
              clear h2
              refine W.lcmp hx hb dL_law_1580 ?_
              refine lv_if_eq (tgt := 1586) hx hb dL_law_1581 (by decide) (fun hc => ?_) (fun hc => ?_)
              · replace h := mi_pos hc h
                refine lv_goto (tgt := 1589) hx hb dL_law_1586 (by decide) ?_
                refine lv_iinc (v := (x4 + 4)) (lv' := [(4, .int (x4 + 4)), (0, .ref b), (1, .ref (K.2.2.2 0)), (2, .ref (K.2.2.2 40)), (3, .ref (K.2.2.2 55))]) hx hb dL_law_1589 hl (k := 4) rfl rfl (by decide) rfl (fun ls hl => ?_)
                refine lv_goto (tgt := 23) hx hb dL_law_1592 (by decide) ?_
                refine W.widen (k := ce + 8) (n := sl + 48) (by omega) (by omega) ?_
                exact ih _ _ _ _ (by omega) (by omega) h kk _ _ _ (lv_sub hl [1, 2, 3, 4, 0] rfl) hH
              · replace h := mi_neg hc h
                refine lv_iconst (v := 0) hx hb dL_law_1584 (by decide) ?_
                cases h
            replace h := hd
            clear h2 hd
            refine lv_if_eq (tgt := 1579) hx hb dL_law_1572 (by decide) (fun hc => ?_) (fun hc => ?_)
            · replace h := mi_pos hc h
              refine lv_lconst (v := 0) hx hb dL_law_1579 (by decide) ?_
              cases h
              exact kj _ _ _ (lv_sub hl [2, 3, 4, 5, 6] rfl) hH
            · replace h := mi_neg hc h
              refine lv_lconst (v := 1) hx hb dL_law_1575 (by decide) ?_
              refine lv_goto (tgt := 1580) hx hb dL_law_1576 (by decide) ?_
              cases h
              exact kj _ _ _ (lv_sub hl [2, 3, 4, 5, 6] rfl) hH
        · replace h := mi_neg hc h
          refine lv_iconst (v := 0) hx hb dL_law_1560 (by decide) ?_
          cases h
      have hk28 := hk
      clear hk
      replace h := mi_neg hk28 h
      refine lv_tableOut (tgt := 1589) hx hb dL_law_39 (fm_sw _ hk0 hk1 hk2 hk3 hk4 hk5 hk6 hk7 hk8 hk9 hk10 hk11 hk12 hk13 hk14 hk15 hk16 hk17 hk18 hk19 hk20 hk21 hk22 hk23 hk24 hk25 hk26 hk27 hk28) (by decide) ?_
      refine lv_iinc (v := (x4 + 4)) (lv' := [(4, .int (x4 + 4)), (0, .ref b), (1, .ref (K.2.2.2 0)), (2, .ref (K.2.2.2 40)), (3, .ref (K.2.2.2 55))]) hx hb dL_law_1589 hl (k := 4) rfl rfl (by decide) rfl (fun ls hl => ?_)
      refine lv_goto (tgt := 23) hx hb dL_law_1592 (by decide) ?_
      refine W.widen (k := ce + 8) (n := sl + 48) (by omega) (by omega) ?_
      exact ih _ _ _ _ (by omega) (by omega) h kk _ _ _ (lv_sub hl [1, 2, 3, 4, 0] rfl) hH
