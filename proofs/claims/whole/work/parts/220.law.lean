set_option maxRecDepth 100000
set_option maxHeartbeats 20000000
def La_law_L18 (L : Nat) (xs : Nat → Int32) : Nat → Int32 → zI → Option (Int32 × zI)
  | 0, _, _ => none
  | n + 1, v3, I =>
    if ((Int32.ofNat L) - 5) < v3 then
      some (1, I)
    else
      if zIn v3 L then
        if ((xs (Int32.toNatClampNeg v3)) &&& 31) = 0 then
          if zIn (v3 + 1) L then
            if zIn (v3 + 2) L then
              if zIn (v3 + 3) L then
                (
                  if (xs (Int32.toNatClampNeg (v3 + 3))) = 0 then
                    some 0
                  else
                    some 1 : Option (Int32)).bind fun x838 =>
                (BM_way n (xs (Int32.toNatClampNeg (v3 + 1))) (xs (Int32.toNatClampNeg (v3 + 2))) x838 I).bind fun (x839, I840) =>
                if zIn (v3 + 1) L then
                  if zIn (v3 + 2) L then
                    if zIn (v3 + 3) L then
                      (
                        if (xs (Int32.toNatClampNeg (v3 + 3))) = 0 then
                          some 0
                        else
                          some 1 : Option (Int32)).bind fun x842 =>
                      (Mo_way n (xs (Int32.toNatClampNeg (v3 + 1))) (xs (Int32.toNatClampNeg (v3 + 2))) x842 I840).bind fun (x843, I844) =>
                      if x839 = x843 then
                        La_law_L18 L xs n (v3 + 5) I844
                      else
                        some (0, I844)
                    else none
                  else none
                else none
              else none
            else none
          else none
        else if ((xs (Int32.toNatClampNeg v3)) &&& 31) = 1 then
          if zIn (v3 + 1) L then
            if zIn (v3 + 2) L then
              (BM_stand (xs (Int32.toNatClampNeg (v3 + 1))) (xs (Int32.toNatClampNeg (v3 + 2))) I).bind fun (x845, I846) =>
              if zIn (v3 + 1) L then
                if zIn (v3 + 2) L then
                  (Mo_stand (xs (Int32.toNatClampNeg (v3 + 1))) (xs (Int32.toNatClampNeg (v3 + 2))) I846).bind fun (x847, I848) =>
                  if x845 = x847 then
                    La_law_L18 L xs n (v3 + 5) I848
                  else
                    some (0, I848)
                else none
              else none
            else none
          else none
        else if ((xs (Int32.toNatClampNeg v3)) &&& 31) = 2 then
          if zIn (v3 + 1) L then
            if zIn (v3 + 2) L then
              (BM_give n (xs (Int32.toNatClampNeg (v3 + 1))) (xs (Int32.toNatClampNeg (v3 + 2))) I).bind fun (x849, I850) =>
              if zIn (v3 + 1) L then
                if zIn (v3 + 2) L then
                  (Mo_give n (xs (Int32.toNatClampNeg (v3 + 1))) (xs (Int32.toNatClampNeg (v3 + 2))) I850).bind fun (x851, I852) =>
                  if x849 = x851 then
                    La_law_L18 L xs n (v3 + 5) I852
                  else
                    some (0, I852)
                else none
              else none
            else none
          else none
        else if ((xs (Int32.toNatClampNeg v3)) &&& 31) = 3 then
          if zIn (v3 + 1) L then
            if zIn (v3 + 2) L then
              if zIn (v3 + 3) L then
                (BM_lay n (xs (Int32.toNatClampNeg (v3 + 1))) (xs (Int32.toNatClampNeg (v3 + 2))) (xs (Int32.toNatClampNeg (v3 + 3))) I).bind fun (x853, I854) =>
                if zIn (v3 + 1) L then
                  if zIn (v3 + 2) L then
                    if zIn (v3 + 3) L then
                      (Mo_lay n (xs (Int32.toNatClampNeg (v3 + 1))) (xs (Int32.toNatClampNeg (v3 + 2))) (xs (Int32.toNatClampNeg (v3 + 3))) I854).bind fun (x855, I856) =>
                      if x853 = x855 then
                        La_law_L18 L xs n (v3 + 5) I856
                      else
                        some (0, I856)
                    else none
                  else none
                else none
              else none
            else none
          else none
        else if ((xs (Int32.toNatClampNeg v3)) &&& 31) = 4 then
          if zIn (v3 + 1) L then
            (BM_forget (xs (Int32.toNatClampNeg (v3 + 1))) I).bind fun (x857, I858) =>
            if zIn (v3 + 1) L then
              (Mo_forget n (xs (Int32.toNatClampNeg (v3 + 1))) I858).bind fun (x859, I860) =>
              if x857 = x859 then
                La_law_L18 L xs n (v3 + 5) I860
              else
                some (0, I860)
            else none
          else none
        else if ((xs (Int32.toNatClampNeg v3)) &&& 31) = 5 then
          if zIn (v3 + 1) L then
            (BM_say (xs (Int32.toNatClampNeg (v3 + 1))) I).bind fun (x861, I862) =>
            if zIn (v3 + 1) L then
              (Mo_say (xs (Int32.toNatClampNeg (v3 + 1))) I862).bind fun (x863, I864) =>
              if x861 = x863 then
                La_law_L18 L xs n (v3 + 5) I864
              else
                some (0, I864)
            else none
          else none
        else if ((xs (Int32.toNatClampNeg v3)) &&& 31) = 6 then
          (BM_wipe I).bind fun (x865, I866) =>
          (Mo_wipe I866).bind fun (x867, I868) =>
          if x865 = x867 then
            La_law_L18 L xs n (v3 + 5) I868
          else
            some (0, I868)
        else if ((xs (Int32.toNatClampNeg v3)) &&& 31) = 7 then
          (BM_fault n I).bind fun x869 =>
          (Mo_fault n I).bind fun (x870, I871) =>
          if x869 = x870 then
            La_law_L18 L xs n (v3 + 5) I871
          else
            some (0, I871)
        else if ((xs (Int32.toNatClampNeg v3)) &&& 31) = 8 then
          if zIn (v3 + 1) L then
            (BM_judge n (xs (Int32.toNatClampNeg (v3 + 1))) I).bind fun (x872, I873) =>
            if zIn (v3 + 1) L then
              (Mo_judge n (xs (Int32.toNatClampNeg (v3 + 1))) I873).bind fun (x874, I875) =>
              if x872 = x874 then
                La_law_L18 L xs n (v3 + 5) I875
              else
                some (0, I875)
            else none
          else none
        else if ((xs (Int32.toNatClampNeg v3)) &&& 31) = 9 then
          if zIn (v3 + 1) L then
            if zIn (v3 + 2) L then
              (BM_behind n (xs (Int32.toNatClampNeg (v3 + 1))) (xs (Int32.toNatClampNeg (v3 + 2))) I).bind fun (x876, I877) =>
              if zIn (v3 + 1) L then
                if zIn (v3 + 2) L then
                  (Mo_behind n (xs (Int32.toNatClampNeg (v3 + 1))) (xs (Int32.toNatClampNeg (v3 + 2))) I877).bind fun (x878, I879) =>
                  if x876 = x878 then
                    La_law_L18 L xs n (v3 + 5) I879
                  else
                    some (0, I879)
                else none
              else none
            else none
          else none
        else if ((xs (Int32.toNatClampNeg v3)) &&& 31) = 10 then
          if zIn (v3 + 1) L then
            if zIn (v3 + 2) L then
              (BM_lies n (xs (Int32.toNatClampNeg (v3 + 1))) (xs (Int32.toNatClampNeg (v3 + 2))) I).bind fun (x880, I881) =>
              if zIn (v3 + 1) L then
                if zIn (v3 + 2) L then
                  (Mo_lies n (xs (Int32.toNatClampNeg (v3 + 1))) (xs (Int32.toNatClampNeg (v3 + 2))) I881).bind fun (x882, I883) =>
                  if x880 = x882 then
                    La_law_L18 L xs n (v3 + 5) I883
                  else
                    some (0, I883)
                else none
              else none
            else none
          else none
        else if ((xs (Int32.toNatClampNeg v3)) &&& 31) = 11 then
          if zIn (v3 + 1) L then
            if zIn (v3 + 2) L then
              (BM_hands n (xs (Int32.toNatClampNeg (v3 + 1))) (xs (Int32.toNatClampNeg (v3 + 2))) I).bind fun (x884, I885) =>
              if zIn (v3 + 1) L then
                if zIn (v3 + 2) L then
                  (Mo_hands n (xs (Int32.toNatClampNeg (v3 + 1))) (xs (Int32.toNatClampNeg (v3 + 2))) I885).bind fun (x886, I887) =>
                  if x884 = x886 then
                    La_law_L18 L xs n (v3 + 5) I887
                  else
                    some (0, I887)
                else none
              else none
            else none
          else none
        else if ((xs (Int32.toNatClampNeg v3)) &&& 31) = 12 then
          (BM_most n I).bind fun (x888, I889) =>
          (Mo_most n I889).bind fun (x890, I891) =>
          if x888 = x890 then
            La_law_L18 L xs n (v3 + 5) I891
          else
            some (0, I891)
        else if ((xs (Int32.toNatClampNeg v3)) &&& 31) = 13 then
          (BM_done n I).bind fun (x892, I893) =>
          (Mo_done n I893).bind fun (x894, I895) =>
          if x892 = x894 then
            La_law_L18 L xs n (v3 + 5) I895
          else
            some (0, I895)
        else if ((xs (Int32.toNatClampNeg v3)) &&& 31) = 14 then
          if zIn (v3 + 1) L then
            if zIn (v3 + 2) L then
              (BM_steps n (xs (Int32.toNatClampNeg (v3 + 1))) (xs (Int32.toNatClampNeg (v3 + 2))) I).bind fun x896 =>
              if zIn (v3 + 1) L then
                if zIn (v3 + 2) L then
                  (Mo_steps n (xs (Int32.toNatClampNeg (v3 + 1))) (xs (Int32.toNatClampNeg (v3 + 2))) I).bind fun x897 =>
                  if x896 = x897 then
                    La_law_L18 L xs n (v3 + 5) I
                  else
                    some (0, I)
                else none
              else none
            else none
          else none
        else if ((xs (Int32.toNatClampNeg v3)) &&& 31) = 15 then
          if zIn (v3 + 1) L then
            if zIn (v3 + 2) L then
              (BM_get n (xs (Int32.toNatClampNeg (v3 + 1))) (xs (Int32.toNatClampNeg (v3 + 2))) I).bind fun x898 =>
              if zIn (v3 + 1) L then
                if zIn (v3 + 2) L then
                  (Mo_get n (xs (Int32.toNatClampNeg (v3 + 1))) (xs (Int32.toNatClampNeg (v3 + 2))) I).bind fun x899 =>
                  if x898 = x899 then
                    La_law_L18 L xs n (v3 + 5) I
                  else
                    some (0, I)
                else none
              else none
            else none
          else none
        else if ((xs (Int32.toNatClampNeg v3)) &&& 31) = 16 then
          if zIn (v3 + 1) L then
            if zIn (v3 + 2) L then
              (BM_round n (xs (Int32.toNatClampNeg (v3 + 1))) (xs (Int32.toNatClampNeg (v3 + 2))) I).bind fun (x900, I901) =>
              if zIn (v3 + 1) L then
                if zIn (v3 + 2) L then
                  (Mo_round n (xs (Int32.toNatClampNeg (v3 + 1))) (xs (Int32.toNatClampNeg (v3 + 2))) I901).bind fun (x902, I903) =>
                  if x900 = x902 then
                    La_law_L18 L xs n (v3 + 5) I903
                  else
                    some (0, I903)
                else none
              else none
            else none
          else none
        else if ((xs (Int32.toNatClampNeg v3)) &&& 31) = 17 then
          if zIn (v3 + 1) L then
            if zIn (v3 + 2) L then
              (BM_walk n (xs (Int32.toNatClampNeg (v3 + 1))) (xs (Int32.toNatClampNeg (v3 + 2))) I).bind fun (x904, I905) =>
              if zIn (v3 + 1) L then
                if zIn (v3 + 2) L then
                  (Mo_walk n (xs (Int32.toNatClampNeg (v3 + 1))) (xs (Int32.toNatClampNeg (v3 + 2))) I905).bind fun (x906, I907) =>
                  if x904 = x906 then
                    La_law_L18 L xs n (v3 + 5) I907
                  else
                    some (0, I907)
                else none
              else none
            else none
          else none
        else if ((xs (Int32.toNatClampNeg v3)) &&& 31) = 18 then
          if zIn (v3 + 1) L then
            if zIn (v3 + 2) L then
              (BM_right n (xs (Int32.toNatClampNeg (v3 + 1))) (xs (Int32.toNatClampNeg (v3 + 2))) I).bind fun (x908, I909) =>
              if zIn (v3 + 1) L then
                if zIn (v3 + 2) L then
                  (Mo_right n (xs (Int32.toNatClampNeg (v3 + 1))) (xs (Int32.toNatClampNeg (v3 + 2))) I909).bind fun (x910, I911) =>
                  if x908 = x910 then
                    La_law_L18 L xs n (v3 + 5) I911
                  else
                    some (0, I911)
                else none
              else none
            else none
          else none
        else if ((xs (Int32.toNatClampNeg v3)) &&& 31) = 19 then
          if zIn (v3 + 1) L then
            if zIn (v3 + 2) L then
              if zIn (v3 + 3) L then
                (
                  if (xs (Int32.toNatClampNeg (v3 + 3))) = 0 then
                    some 0
                  else
                    some 1 : Option (Int32)).bind fun x913 =>
                (BM_seen (xs (Int32.toNatClampNeg (v3 + 1))) (xs (Int32.toNatClampNeg (v3 + 2))) x913 I).bind fun (x914, I915) =>
                if zIn (v3 + 1) L then
                  if zIn (v3 + 2) L then
                    if zIn (v3 + 3) L then
                      (
                        if (xs (Int32.toNatClampNeg (v3 + 3))) = 0 then
                          some 0
                        else
                          some 1 : Option (Int32)).bind fun x917 =>
                      (Mo_seen (xs (Int32.toNatClampNeg (v3 + 1))) (xs (Int32.toNatClampNeg (v3 + 2))) x917 I915).bind fun (x918, I919) =>
                      if x914 = x918 then
                        La_law_L18 L xs n (v3 + 5) I919
                      else
                        some (0, I919)
                    else none
                  else none
                else none
              else none
            else none
          else none
        else if ((xs (Int32.toNatClampNeg v3)) &&& 31) = 20 then
          (BM_clear I).bind fun (x920, I921) =>
          (Mo_clear I921).bind fun (x922, I923) =>
          if x920 = x922 then
            La_law_L18 L xs n (v3 + 5) I923
          else
            some (0, I923)
        else if ((xs (Int32.toNatClampNeg v3)) &&& 31) = 21 then
          if zIn (v3 + 1) L then
            (BM_fits n (xs (Int32.toNatClampNeg (v3 + 1))) I).bind fun (x924, I925) =>
            if zIn (v3 + 1) L then
              (Mo_fits n (xs (Int32.toNatClampNeg (v3 + 1))) I925).bind fun x926 =>
              if x924 = x926 then
                La_law_L18 L xs n (v3 + 5) I925
              else
                some (0, I925)
            else none
          else none
        else if ((xs (Int32.toNatClampNeg v3)) &&& 31) = 22 then
          if zIn (v3 + 1) L then
            (BM_ask n (xs (Int32.toNatClampNeg (v3 + 1))) I).bind fun (x927, I928) =>
            if zIn (v3 + 1) L then
              (Mo_ask n (xs (Int32.toNatClampNeg (v3 + 1))) I928).bind fun (x929, I930) =>
              if x927 = x929 then
                La_law_L18 L xs n (v3 + 5) I930
              else
                some (0, I930)
            else none
          else none
        else if ((xs (Int32.toNatClampNeg v3)) &&& 31) = 23 then
          if zIn (v3 + 1) L then
            if zIn (v3 + 2) L then
              (BM_take n (xs (Int32.toNatClampNeg (v3 + 1))) (xs (Int32.toNatClampNeg (v3 + 2))) I).bind fun x931 =>
              if zIn (v3 + 1) L then
                if zIn (v3 + 2) L then
                  (Mo_take n (xs (Int32.toNatClampNeg (v3 + 1))) (xs (Int32.toNatClampNeg (v3 + 2))) I).bind fun (x932, I933) =>
                  if x931 = x932 then
                    La_law_L18 L xs n (v3 + 5) I933
                  else
                    some (0, I933)
                else none
              else none
            else none
          else none
        else if ((xs (Int32.toNatClampNeg v3)) &&& 31) = 24 then
          if zIn (v3 + 1) L then
            if zIn (v3 + 2) L then
              if zIn (v3 + 3) L then
                if zIn (v3 + 4) L then
                  (BM_evenings n (xs (Int32.toNatClampNeg (v3 + 1))) (xs (Int32.toNatClampNeg (v3 + 2))) (xs (Int32.toNatClampNeg (v3 + 3))) (xs (Int32.toNatClampNeg (v3 + 4))) I).bind fun x934 =>
                  if zIn (v3 + 1) L then
                    if zIn (v3 + 2) L then
                      if zIn (v3 + 3) L then
                        if zIn (v3 + 4) L then
                          (Mo_evenings n (xs (Int32.toNatClampNeg (v3 + 1))) (xs (Int32.toNatClampNeg (v3 + 2))) (xs (Int32.toNatClampNeg (v3 + 3))) (xs (Int32.toNatClampNeg (v3 + 4))) I).bind fun x935 =>
                          if (lg_cmp x934 x935) = 0 then
                            La_law_L18 L xs n (v3 + 5) I
                          else
                            some (0, I)
                        else none
                      else none
                    else none
                  else none
                else none
              else none
            else none
          else none
        else if ((xs (Int32.toNatClampNeg v3)) &&& 31) = 25 then
          if zIn (v3 + 1) L then
            if zIn (v3 + 2) L then
              if zIn (v3 + 3) L then
                (BM_season n (xs (Int32.toNatClampNeg (v3 + 1))) (xs (Int32.toNatClampNeg (v3 + 2))) (xs (Int32.toNatClampNeg (v3 + 3))) I).bind fun (x936, I937) =>
                if zIn (v3 + 1) L then
                  if zIn (v3 + 2) L then
                    if zIn (v3 + 3) L then
                      (Mo_season n (xs (Int32.toNatClampNeg (v3 + 1))) (xs (Int32.toNatClampNeg (v3 + 2))) (xs (Int32.toNatClampNeg (v3 + 3))) I937).bind fun (x938, I939) =>
                      if x936 = x938 then
                        La_law_L18 L xs n (v3 + 5) I939
                      else
                        some (0, I939)
                    else none
                  else none
                else none
              else none
            else none
          else none
        else if ((xs (Int32.toNatClampNeg v3)) &&& 31) = 26 then
          if zIn (v3 + 1) L then
            (BM_image (xs (Int32.toNatClampNeg (v3 + 1))) I).bind fun (x940, I941) =>
            if zIn (v3 + 1) L then
              (Mo_image n (xs (Int32.toNatClampNeg (v3 + 1))) I941).bind fun (x942, I943) =>
              if x940 = x942 then
                La_law_L18 L xs n (v3 + 5) I943
              else
                some (0, I943)
            else none
          else none
        else if ((xs (Int32.toNatClampNeg v3)) &&& 31) = 27 then
          if zIn (v3 + 1) L then
            (BM_restore (xs (Int32.toNatClampNeg (v3 + 1))) I).bind fun (x944, I945) =>
            if zIn (v3 + 1) L then
              (Mo_restore n (xs (Int32.toNatClampNeg (v3 + 1))) I945).bind fun (x946, I947) =>
              if x944 = x946 then
                La_law_L18 L xs n (v3 + 5) I947
              else
                some (0, I947)
            else none
          else none
        else if ((xs (Int32.toNatClampNeg v3)) &&& 31) = 28 then
          if zIn (v3 + 1) L then
            (BM_told n (xs (Int32.toNatClampNeg (v3 + 1))) I).bind fun x948 =>
            if zIn (v3 + 1) L then
              (Mo_told n (xs (Int32.toNatClampNeg (v3 + 1))) I).bind fun x949 =>
              if x948 = x949 then
                La_law_L18 L xs n (v3 + 5) I
              else
                some (0, I)
            else none
          else none
        else
          La_law_L18 L xs n (v3 + 5) I
      else none
theorem s_La_law_L18 (L : Nat) (xs : Nat → Int32) (d : Nat) (hd : 7 ≤ d) : ∀ (n : Nat) {v3 : Int32} {I : zI} {r : Int32} {I' : zI}, La_law_L18 L xs n v3 I = some (r, I') → zEv (some (L, xs)) d 199 (18, [some (.ref 0), some (.ref 1), some (.ref 73), some (.int v3)], []) (zHp I) (some (.int r)) (zHp I') := by
  obtain ⟨d, rfl⟩ : ∃ e, d = e + 1 := ⟨d - 1, by omega⟩
  intro n
  induction n with
  | zero => intros; rename_i hf; cases hf
  | succ n ih =>
    intro v3 I r I' hf
    rw [La_law_L18] at hf
    refine zEv_if 6 (c := ((Int32.ofNat L) - 5) < v3) (f1 := (1040, [some (.ref 0), some (.ref 1), some (.ref 73), some (.int v3)], [])) (f2 := (26, [some (.ref 0), some (.ref 1), some (.ref 73), some (.int v3)], [])) (h1 := zHp I) (fun n => rfl) (fun hc => ?_) (fun hc => ?_)
    · rw [if_pos hc] at hf
      cases hf
      exact zEv_ret 2 (fun n => rfl)
    · rw [if_neg hc] at hf
      obtain ⟨hc, hf⟩ := zGd_inv hf
      refine zEv_gd 3 (c := zIn v3 L) (f1 := (29, [some (.ref 0), some (.ref 1), some (.ref 73), some (.int v3)], [.int (xs (Int32.toNatClampNeg v3))])) (h1 := zHp I) (fun n => rfl) hc ?_
      refine zEv_go 2 (f1 := (32, [some (.ref 0), some (.ref 1), some (.ref 73), some (.int v3)], [.int ((xs (Int32.toNatClampNeg v3)) &&& 31)])) (h1 := zHp I) (fun n => rfl) ?_
      by_cases hc0 : ((xs (Int32.toNatClampNeg v3)) &&& 31) = 0
      · rw [if_pos hc0] at hf
        refine zEv_tsk (off := 132) (t := 164) 0 (by rfl) hc0 (by decide) rfl rfl ?_
        obtain ⟨hc, hf⟩ := zGd_inv hf
        refine zEv_gd 6 (c := zIn (v3 + 1) L) (f1 := (170, [some (.ref 0), some (.ref 1), some (.ref 73), some (.int v3)], [.int (xs (Int32.toNatClampNeg (v3 + 1))), .ref 1])) (h1 := zHp I) (fun n => rfl) hc ?_
        obtain ⟨hc, hf⟩ := zGd_inv hf
        refine zEv_gd 5 (c := zIn (v3 + 2) L) (f1 := (175, [some (.ref 0), some (.ref 1), some (.ref 73), some (.int v3)], [.int (xs (Int32.toNatClampNeg (v3 + 2))), .int (xs (Int32.toNatClampNeg (v3 + 1))), .ref 1])) (h1 := zHp I) (fun n => rfl) hc ?_
        obtain ⟨hc, hf⟩ := zGd_inv hf
        refine zEv_gd 5 (c := zIn (v3 + 3) L) (f1 := (180, [some (.ref 0), some (.ref 1), some (.ref 73), some (.int v3)], [.int (xs (Int32.toNatClampNeg (v3 + 3))), .int (xs (Int32.toNatClampNeg (v3 + 2))), .int (xs (Int32.toNatClampNeg (v3 + 1))), .ref 1])) (h1 := zHp I) (fun n => rfl) hc ?_
        obtain ⟨x838, hm_m837, hf⟩ := Option.bind_eq_some_iff.mp hf
        have hJ_m837 : zEv (some (L, xs)) (d + 1) 199 (188, [some (.ref 0), some (.ref 1), some (.ref 73), some (.int v3)], [.int x838, .int (xs (Int32.toNatClampNeg (v3 + 2))), .int (xs (Int32.toNatClampNeg (v3 + 1))), .ref 1]) (zHp I) (some (.int r)) (zHp I') := by
          obtain ⟨⟨x839, I840⟩, hx, hf⟩ := Option.bind_eq_some_iff.mp hf
          dsimp only at hf
          refine zEv_call 1 (N := 79) (vs := [.ref 1, .int (xs (Int32.toNatClampNeg (v3 + 1))), .int (xs (Int32.toNatClampNeg (v3 + 2))), .int x838]) (v1 := some (.int x839)) (h1 := zHp I840) (L := [some (.ref 0), some (.ref 1), some (.ref 73), some (.int v3)]) (rest := []) (pc := 191) (fun n => rfl) (s_BM_way hx d (by omega)) rfl rfl ?_
          show zEv _ _ _ (191, [some (.ref 0), some (.ref 1), some (.ref 73), some (.int v3)], [.int x839]) _ _ _
          obtain ⟨hc, hf⟩ := zGd_inv hf
          refine zEv_gd 6 (c := zIn (v3 + 1) L) (f1 := (197, [some (.ref 0), some (.ref 1), some (.ref 73), some (.int v3)], [.int (xs (Int32.toNatClampNeg (v3 + 1))), .ref 73, .int x839])) (h1 := zHp I840) (fun n => rfl) hc ?_
          obtain ⟨hc, hf⟩ := zGd_inv hf
          refine zEv_gd 5 (c := zIn (v3 + 2) L) (f1 := (202, [some (.ref 0), some (.ref 1), some (.ref 73), some (.int v3)], [.int (xs (Int32.toNatClampNeg (v3 + 2))), .int (xs (Int32.toNatClampNeg (v3 + 1))), .ref 73, .int x839])) (h1 := zHp I840) (fun n => rfl) hc ?_
          obtain ⟨hc, hf⟩ := zGd_inv hf
          refine zEv_gd 5 (c := zIn (v3 + 3) L) (f1 := (207, [some (.ref 0), some (.ref 1), some (.ref 73), some (.int v3)], [.int (xs (Int32.toNatClampNeg (v3 + 3))), .int (xs (Int32.toNatClampNeg (v3 + 2))), .int (xs (Int32.toNatClampNeg (v3 + 1))), .ref 73, .int x839])) (h1 := zHp I840) (fun n => rfl) hc ?_
          obtain ⟨x842, hm_m841, hf⟩ := Option.bind_eq_some_iff.mp hf
          have hJ_m841 : zEv (some (L, xs)) (d + 1) 199 (215, [some (.ref 0), some (.ref 1), some (.ref 73), some (.int v3)], [.int x842, .int (xs (Int32.toNatClampNeg (v3 + 2))), .int (xs (Int32.toNatClampNeg (v3 + 1))), .ref 73, .int x839]) (zHp I840) (some (.int r)) (zHp I') := by
            obtain ⟨⟨x843, I844⟩, hx, hf⟩ := Option.bind_eq_some_iff.mp hf
            dsimp only at hf
            refine zEv_call 1 (N := 124) (vs := [.ref 73, .int (xs (Int32.toNatClampNeg (v3 + 1))), .int (xs (Int32.toNatClampNeg (v3 + 2))), .int x842]) (v1 := some (.int x843)) (h1 := zHp I844) (L := [some (.ref 0), some (.ref 1), some (.ref 73), some (.int v3)]) (rest := [.int x839]) (pc := 218) (fun n => rfl) (s_Mo_way hx d (by omega)) rfl rfl ?_
            show zEv _ _ _ (218, [some (.ref 0), some (.ref 1), some (.ref 73), some (.int v3)], [.int x843, .int x839]) _ _ _
            refine zEv_if 1 (c := x839 = x843) (f1 := (1034, [some (.ref 0), some (.ref 1), some (.ref 73), some (.int v3)], [])) (f2 := (221, [some (.ref 0), some (.ref 1), some (.ref 73), some (.int v3)], [])) (h1 := zHp I844) (fun n => rfl) (fun hc => ?_) (fun hc => ?_)
            · rw [if_pos hc] at hf
              refine zEv_go 2 (f1 := (18, [some (.ref 0), some (.ref 1), some (.ref 73), some (.int (v3 + 5))], [])) (h1 := zHp I844) (fun n => rfl) ?_
              refine zEv_weak (L := [some (.ref 0), some (.ref 1), some (.ref 73), some (.int (v3 + 5))]) (by exact ⟨rfl, ⟨rfl, ⟨rfl, ⟨rfl, trivial⟩⟩⟩⟩) ?_
              exact ih hf
            · rw [if_neg hc] at hf
              cases hf
              exact zEv_ret 2 (fun n => rfl)
          clear hf
          refine zEv_if 1 (c := (xs (Int32.toNatClampNeg (v3 + 3))) = 0) (f1 := (214, [some (.ref 0), some (.ref 1), some (.ref 73), some (.int v3)], [.int (xs (Int32.toNatClampNeg (v3 + 2))), .int (xs (Int32.toNatClampNeg (v3 + 1))), .ref 73, .int x839])) (f2 := (210, [some (.ref 0), some (.ref 1), some (.ref 73), some (.int v3)], [.int (xs (Int32.toNatClampNeg (v3 + 2))), .int (xs (Int32.toNatClampNeg (v3 + 1))), .ref 73, .int x839])) (h1 := zHp I840) (fun n => rfl) (fun hc => ?_) (fun hc => ?_)
          · rw [if_pos hc] at hm_m841
            obtain rfl := Option.some.inj hm_m841
            refine zEv_go 1 (f1 := (215, [some (.ref 0), some (.ref 1), some (.ref 73), some (.int v3)], [.int 0, .int (xs (Int32.toNatClampNeg (v3 + 2))), .int (xs (Int32.toNatClampNeg (v3 + 1))), .ref 73, .int x839])) (h1 := zHp I840) (fun n => rfl) ?_
            exact zEv_weak (L := [some (.ref 0), some (.ref 1), some (.ref 73), some (.int v3)]) (by exact ⟨rfl, ⟨rfl, ⟨rfl, ⟨rfl, trivial⟩⟩⟩⟩) hJ_m841
          · rw [if_neg hc] at hm_m841
            obtain rfl := Option.some.inj hm_m841
            refine zEv_go 2 (f1 := (215, [some (.ref 0), some (.ref 1), some (.ref 73), some (.int v3)], [.int 1, .int (xs (Int32.toNatClampNeg (v3 + 2))), .int (xs (Int32.toNatClampNeg (v3 + 1))), .ref 73, .int x839])) (h1 := zHp I840) (fun n => rfl) ?_
            exact zEv_weak (L := [some (.ref 0), some (.ref 1), some (.ref 73), some (.int v3)]) (by exact ⟨rfl, ⟨rfl, ⟨rfl, ⟨rfl, trivial⟩⟩⟩⟩) hJ_m841
        clear hf
        refine zEv_if 1 (c := (xs (Int32.toNatClampNeg (v3 + 3))) = 0) (f1 := (187, [some (.ref 0), some (.ref 1), some (.ref 73), some (.int v3)], [.int (xs (Int32.toNatClampNeg (v3 + 2))), .int (xs (Int32.toNatClampNeg (v3 + 1))), .ref 1])) (f2 := (183, [some (.ref 0), some (.ref 1), some (.ref 73), some (.int v3)], [.int (xs (Int32.toNatClampNeg (v3 + 2))), .int (xs (Int32.toNatClampNeg (v3 + 1))), .ref 1])) (h1 := zHp I) (fun n => rfl) (fun hc => ?_) (fun hc => ?_)
        · rw [if_pos hc] at hm_m837
          obtain rfl := Option.some.inj hm_m837
          refine zEv_go 1 (f1 := (188, [some (.ref 0), some (.ref 1), some (.ref 73), some (.int v3)], [.int 0, .int (xs (Int32.toNatClampNeg (v3 + 2))), .int (xs (Int32.toNatClampNeg (v3 + 1))), .ref 1])) (h1 := zHp I) (fun n => rfl) ?_
          exact zEv_weak (L := [some (.ref 0), some (.ref 1), some (.ref 73), some (.int v3)]) (by exact ⟨rfl, ⟨rfl, ⟨rfl, ⟨rfl, trivial⟩⟩⟩⟩) hJ_m837
        · rw [if_neg hc] at hm_m837
          obtain rfl := Option.some.inj hm_m837
          refine zEv_go 2 (f1 := (188, [some (.ref 0), some (.ref 1), some (.ref 73), some (.int v3)], [.int 1, .int (xs (Int32.toNatClampNeg (v3 + 2))), .int (xs (Int32.toNatClampNeg (v3 + 1))), .ref 1])) (h1 := zHp I) (fun n => rfl) ?_
          exact zEv_weak (L := [some (.ref 0), some (.ref 1), some (.ref 73), some (.int v3)]) (by exact ⟨rfl, ⟨rfl, ⟨rfl, ⟨rfl, trivial⟩⟩⟩⟩) hJ_m837
      rw [if_neg hc0] at hf
      by_cases hc1 : ((xs (Int32.toNatClampNeg v3)) &&& 31) = 1
      · rw [if_pos hc1] at hf
        refine zEv_tsk (off := 191) (t := 223) 1 (by rfl) hc1 (by decide) rfl rfl ?_
        obtain ⟨hc, hf⟩ := zGd_inv hf
        refine zEv_gd 6 (c := zIn (v3 + 1) L) (f1 := (229, [some (.ref 0), some (.ref 1), some (.ref 73), some (.int v3)], [.int (xs (Int32.toNatClampNeg (v3 + 1))), .ref 1])) (h1 := zHp I) (fun n => rfl) hc ?_
        obtain ⟨hc, hf⟩ := zGd_inv hf
        refine zEv_gd 5 (c := zIn (v3 + 2) L) (f1 := (234, [some (.ref 0), some (.ref 1), some (.ref 73), some (.int v3)], [.int (xs (Int32.toNatClampNeg (v3 + 2))), .int (xs (Int32.toNatClampNeg (v3 + 1))), .ref 1])) (h1 := zHp I) (fun n => rfl) hc ?_
        obtain ⟨⟨x845, I846⟩, hx, hf⟩ := Option.bind_eq_some_iff.mp hf
        dsimp only at hf
        refine zEv_call 1 (N := 80) (vs := [.ref 1, .int (xs (Int32.toNatClampNeg (v3 + 1))), .int (xs (Int32.toNatClampNeg (v3 + 2)))]) (v1 := some (.int x845)) (h1 := zHp I846) (L := [some (.ref 0), some (.ref 1), some (.ref 73), some (.int v3)]) (rest := []) (pc := 237) (fun n => rfl) (s_BM_stand hx d (by omega)) rfl rfl ?_
        show zEv _ _ _ (237, [some (.ref 0), some (.ref 1), some (.ref 73), some (.int v3)], [.int x845]) _ _ _
        obtain ⟨hc, hf⟩ := zGd_inv hf
        refine zEv_gd 6 (c := zIn (v3 + 1) L) (f1 := (243, [some (.ref 0), some (.ref 1), some (.ref 73), some (.int v3)], [.int (xs (Int32.toNatClampNeg (v3 + 1))), .ref 73, .int x845])) (h1 := zHp I846) (fun n => rfl) hc ?_
        obtain ⟨hc, hf⟩ := zGd_inv hf
        refine zEv_gd 5 (c := zIn (v3 + 2) L) (f1 := (248, [some (.ref 0), some (.ref 1), some (.ref 73), some (.int v3)], [.int (xs (Int32.toNatClampNeg (v3 + 2))), .int (xs (Int32.toNatClampNeg (v3 + 1))), .ref 73, .int x845])) (h1 := zHp I846) (fun n => rfl) hc ?_
        obtain ⟨⟨x847, I848⟩, hx, hf⟩ := Option.bind_eq_some_iff.mp hf
        dsimp only at hf
        refine zEv_call 1 (N := 125) (vs := [.ref 73, .int (xs (Int32.toNatClampNeg (v3 + 1))), .int (xs (Int32.toNatClampNeg (v3 + 2)))]) (v1 := some (.int x847)) (h1 := zHp I848) (L := [some (.ref 0), some (.ref 1), some (.ref 73), some (.int v3)]) (rest := [.int x845]) (pc := 251) (fun n => rfl) (s_Mo_stand hx d (by omega)) rfl rfl ?_
        show zEv _ _ _ (251, [some (.ref 0), some (.ref 1), some (.ref 73), some (.int v3)], [.int x847, .int x845]) _ _ _
        refine zEv_if 1 (c := x845 = x847) (f1 := (1034, [some (.ref 0), some (.ref 1), some (.ref 73), some (.int v3)], [])) (f2 := (254, [some (.ref 0), some (.ref 1), some (.ref 73), some (.int v3)], [])) (h1 := zHp I848) (fun n => rfl) (fun hc => ?_) (fun hc => ?_)
        · rw [if_pos hc] at hf
          refine zEv_go 2 (f1 := (18, [some (.ref 0), some (.ref 1), some (.ref 73), some (.int (v3 + 5))], [])) (h1 := zHp I848) (fun n => rfl) ?_
          refine zEv_weak (L := [some (.ref 0), some (.ref 1), some (.ref 73), some (.int (v3 + 5))]) (by exact ⟨rfl, ⟨rfl, ⟨rfl, ⟨rfl, trivial⟩⟩⟩⟩) ?_
          exact ih hf
        · rw [if_neg hc] at hf
          cases hf
          exact zEv_ret 2 (fun n => rfl)
      rw [if_neg hc1] at hf
      by_cases hc2 : ((xs (Int32.toNatClampNeg v3)) &&& 31) = 2
      · rw [if_pos hc2] at hf
        refine zEv_tsk (off := 224) (t := 256) 2 (by rfl) hc2 (by decide) rfl rfl ?_
        obtain ⟨hc, hf⟩ := zGd_inv hf
        refine zEv_gd 6 (c := zIn (v3 + 1) L) (f1 := (262, [some (.ref 0), some (.ref 1), some (.ref 73), some (.int v3)], [.int (xs (Int32.toNatClampNeg (v3 + 1))), .ref 1])) (h1 := zHp I) (fun n => rfl) hc ?_
        obtain ⟨hc, hf⟩ := zGd_inv hf
        refine zEv_gd 5 (c := zIn (v3 + 2) L) (f1 := (267, [some (.ref 0), some (.ref 1), some (.ref 73), some (.int v3)], [.int (xs (Int32.toNatClampNeg (v3 + 2))), .int (xs (Int32.toNatClampNeg (v3 + 1))), .ref 1])) (h1 := zHp I) (fun n => rfl) hc ?_
        obtain ⟨⟨x849, I850⟩, hx, hf⟩ := Option.bind_eq_some_iff.mp hf
        dsimp only at hf
        refine zEv_call 1 (N := 81) (vs := [.ref 1, .int (xs (Int32.toNatClampNeg (v3 + 1))), .int (xs (Int32.toNatClampNeg (v3 + 2)))]) (v1 := some (.int x849)) (h1 := zHp I850) (L := [some (.ref 0), some (.ref 1), some (.ref 73), some (.int v3)]) (rest := []) (pc := 270) (fun n => rfl) (s_BM_give hx d (by omega)) rfl rfl ?_
        show zEv _ _ _ (270, [some (.ref 0), some (.ref 1), some (.ref 73), some (.int v3)], [.int x849]) _ _ _
        obtain ⟨hc, hf⟩ := zGd_inv hf
        refine zEv_gd 6 (c := zIn (v3 + 1) L) (f1 := (276, [some (.ref 0), some (.ref 1), some (.ref 73), some (.int v3)], [.int (xs (Int32.toNatClampNeg (v3 + 1))), .ref 73, .int x849])) (h1 := zHp I850) (fun n => rfl) hc ?_
        obtain ⟨hc, hf⟩ := zGd_inv hf
        refine zEv_gd 5 (c := zIn (v3 + 2) L) (f1 := (281, [some (.ref 0), some (.ref 1), some (.ref 73), some (.int v3)], [.int (xs (Int32.toNatClampNeg (v3 + 2))), .int (xs (Int32.toNatClampNeg (v3 + 1))), .ref 73, .int x849])) (h1 := zHp I850) (fun n => rfl) hc ?_
        obtain ⟨⟨x851, I852⟩, hx, hf⟩ := Option.bind_eq_some_iff.mp hf
        dsimp only at hf
        refine zEv_call 1 (N := 128) (vs := [.ref 73, .int (xs (Int32.toNatClampNeg (v3 + 1))), .int (xs (Int32.toNatClampNeg (v3 + 2)))]) (v1 := some (.int x851)) (h1 := zHp I852) (L := [some (.ref 0), some (.ref 1), some (.ref 73), some (.int v3)]) (rest := [.int x849]) (pc := 284) (fun n => rfl) (s_Mo_give hx d (by omega)) rfl rfl ?_
        show zEv _ _ _ (284, [some (.ref 0), some (.ref 1), some (.ref 73), some (.int v3)], [.int x851, .int x849]) _ _ _
        refine zEv_if 1 (c := x849 = x851) (f1 := (1034, [some (.ref 0), some (.ref 1), some (.ref 73), some (.int v3)], [])) (f2 := (287, [some (.ref 0), some (.ref 1), some (.ref 73), some (.int v3)], [])) (h1 := zHp I852) (fun n => rfl) (fun hc => ?_) (fun hc => ?_)
        · rw [if_pos hc] at hf
          refine zEv_go 2 (f1 := (18, [some (.ref 0), some (.ref 1), some (.ref 73), some (.int (v3 + 5))], [])) (h1 := zHp I852) (fun n => rfl) ?_
          refine zEv_weak (L := [some (.ref 0), some (.ref 1), some (.ref 73), some (.int (v3 + 5))]) (by exact ⟨rfl, ⟨rfl, ⟨rfl, ⟨rfl, trivial⟩⟩⟩⟩) ?_
          exact ih hf
        · rw [if_neg hc] at hf
          cases hf
          exact zEv_ret 2 (fun n => rfl)
      rw [if_neg hc2] at hf
      by_cases hc3 : ((xs (Int32.toNatClampNeg v3)) &&& 31) = 3
      · rw [if_pos hc3] at hf
        refine zEv_tsk (off := 257) (t := 289) 3 (by rfl) hc3 (by decide) rfl rfl ?_
        obtain ⟨hc, hf⟩ := zGd_inv hf
        refine zEv_gd 6 (c := zIn (v3 + 1) L) (f1 := (295, [some (.ref 0), some (.ref 1), some (.ref 73), some (.int v3)], [.int (xs (Int32.toNatClampNeg (v3 + 1))), .ref 1])) (h1 := zHp I) (fun n => rfl) hc ?_
        obtain ⟨hc, hf⟩ := zGd_inv hf
        refine zEv_gd 5 (c := zIn (v3 + 2) L) (f1 := (300, [some (.ref 0), some (.ref 1), some (.ref 73), some (.int v3)], [.int (xs (Int32.toNatClampNeg (v3 + 2))), .int (xs (Int32.toNatClampNeg (v3 + 1))), .ref 1])) (h1 := zHp I) (fun n => rfl) hc ?_
        obtain ⟨hc, hf⟩ := zGd_inv hf
        refine zEv_gd 5 (c := zIn (v3 + 3) L) (f1 := (305, [some (.ref 0), some (.ref 1), some (.ref 73), some (.int v3)], [.int (xs (Int32.toNatClampNeg (v3 + 3))), .int (xs (Int32.toNatClampNeg (v3 + 2))), .int (xs (Int32.toNatClampNeg (v3 + 1))), .ref 1])) (h1 := zHp I) (fun n => rfl) hc ?_
        obtain ⟨⟨x853, I854⟩, hx, hf⟩ := Option.bind_eq_some_iff.mp hf
        dsimp only at hf
        refine zEv_call 1 (N := 82) (vs := [.ref 1, .int (xs (Int32.toNatClampNeg (v3 + 1))), .int (xs (Int32.toNatClampNeg (v3 + 2))), .int (xs (Int32.toNatClampNeg (v3 + 3)))]) (v1 := some (.int x853)) (h1 := zHp I854) (L := [some (.ref 0), some (.ref 1), some (.ref 73), some (.int v3)]) (rest := []) (pc := 308) (fun n => rfl) (s_BM_lay hx d (by omega)) rfl rfl ?_
        show zEv _ _ _ (308, [some (.ref 0), some (.ref 1), some (.ref 73), some (.int v3)], [.int x853]) _ _ _
        obtain ⟨hc, hf⟩ := zGd_inv hf
        refine zEv_gd 6 (c := zIn (v3 + 1) L) (f1 := (314, [some (.ref 0), some (.ref 1), some (.ref 73), some (.int v3)], [.int (xs (Int32.toNatClampNeg (v3 + 1))), .ref 73, .int x853])) (h1 := zHp I854) (fun n => rfl) hc ?_
        obtain ⟨hc, hf⟩ := zGd_inv hf
        refine zEv_gd 5 (c := zIn (v3 + 2) L) (f1 := (319, [some (.ref 0), some (.ref 1), some (.ref 73), some (.int v3)], [.int (xs (Int32.toNatClampNeg (v3 + 2))), .int (xs (Int32.toNatClampNeg (v3 + 1))), .ref 73, .int x853])) (h1 := zHp I854) (fun n => rfl) hc ?_
        obtain ⟨hc, hf⟩ := zGd_inv hf
        refine zEv_gd 5 (c := zIn (v3 + 3) L) (f1 := (324, [some (.ref 0), some (.ref 1), some (.ref 73), some (.int v3)], [.int (xs (Int32.toNatClampNeg (v3 + 3))), .int (xs (Int32.toNatClampNeg (v3 + 2))), .int (xs (Int32.toNatClampNeg (v3 + 1))), .ref 73, .int x853])) (h1 := zHp I854) (fun n => rfl) hc ?_
        obtain ⟨⟨x855, I856⟩, hx, hf⟩ := Option.bind_eq_some_iff.mp hf
        dsimp only at hf
        refine zEv_call 1 (N := 129) (vs := [.ref 73, .int (xs (Int32.toNatClampNeg (v3 + 1))), .int (xs (Int32.toNatClampNeg (v3 + 2))), .int (xs (Int32.toNatClampNeg (v3 + 3)))]) (v1 := some (.int x855)) (h1 := zHp I856) (L := [some (.ref 0), some (.ref 1), some (.ref 73), some (.int v3)]) (rest := [.int x853]) (pc := 327) (fun n => rfl) (s_Mo_lay hx d (by omega)) rfl rfl ?_
        show zEv _ _ _ (327, [some (.ref 0), some (.ref 1), some (.ref 73), some (.int v3)], [.int x855, .int x853]) _ _ _
        refine zEv_if 1 (c := x853 = x855) (f1 := (1034, [some (.ref 0), some (.ref 1), some (.ref 73), some (.int v3)], [])) (f2 := (330, [some (.ref 0), some (.ref 1), some (.ref 73), some (.int v3)], [])) (h1 := zHp I856) (fun n => rfl) (fun hc => ?_) (fun hc => ?_)
        · rw [if_pos hc] at hf
          refine zEv_go 2 (f1 := (18, [some (.ref 0), some (.ref 1), some (.ref 73), some (.int (v3 + 5))], [])) (h1 := zHp I856) (fun n => rfl) ?_
          refine zEv_weak (L := [some (.ref 0), some (.ref 1), some (.ref 73), some (.int (v3 + 5))]) (by exact ⟨rfl, ⟨rfl, ⟨rfl, ⟨rfl, trivial⟩⟩⟩⟩) ?_
          exact ih hf
        · rw [if_neg hc] at hf
          cases hf
          exact zEv_ret 2 (fun n => rfl)
      rw [if_neg hc3] at hf
      by_cases hc4 : ((xs (Int32.toNatClampNeg v3)) &&& 31) = 4
      · rw [if_pos hc4] at hf
        refine zEv_tsk (off := 300) (t := 332) 4 (by rfl) hc4 (by decide) rfl rfl ?_
        obtain ⟨hc, hf⟩ := zGd_inv hf
        refine zEv_gd 6 (c := zIn (v3 + 1) L) (f1 := (338, [some (.ref 0), some (.ref 1), some (.ref 73), some (.int v3)], [.int (xs (Int32.toNatClampNeg (v3 + 1))), .ref 1])) (h1 := zHp I) (fun n => rfl) hc ?_
        obtain ⟨⟨x857, I858⟩, hx, hf⟩ := Option.bind_eq_some_iff.mp hf
        dsimp only at hf
        refine zEv_call 1 (N := 83) (vs := [.ref 1, .int (xs (Int32.toNatClampNeg (v3 + 1)))]) (v1 := some (.int x857)) (h1 := zHp I858) (L := [some (.ref 0), some (.ref 1), some (.ref 73), some (.int v3)]) (rest := []) (pc := 341) (fun n => rfl) (s_BM_forget hx d (by omega)) rfl rfl ?_
        show zEv _ _ _ (341, [some (.ref 0), some (.ref 1), some (.ref 73), some (.int v3)], [.int x857]) _ _ _
        obtain ⟨hc, hf⟩ := zGd_inv hf
        refine zEv_gd 6 (c := zIn (v3 + 1) L) (f1 := (347, [some (.ref 0), some (.ref 1), some (.ref 73), some (.int v3)], [.int (xs (Int32.toNatClampNeg (v3 + 1))), .ref 73, .int x857])) (h1 := zHp I858) (fun n => rfl) hc ?_
        obtain ⟨⟨x859, I860⟩, hx, hf⟩ := Option.bind_eq_some_iff.mp hf
        dsimp only at hf
        refine zEv_call 1 (N := 130) (vs := [.ref 73, .int (xs (Int32.toNatClampNeg (v3 + 1)))]) (v1 := some (.int x859)) (h1 := zHp I860) (L := [some (.ref 0), some (.ref 1), some (.ref 73), some (.int v3)]) (rest := [.int x857]) (pc := 350) (fun n => rfl) (s_Mo_forget hx d (by omega)) rfl rfl ?_
        show zEv _ _ _ (350, [some (.ref 0), some (.ref 1), some (.ref 73), some (.int v3)], [.int x859, .int x857]) _ _ _
        refine zEv_if 1 (c := x857 = x859) (f1 := (1034, [some (.ref 0), some (.ref 1), some (.ref 73), some (.int v3)], [])) (f2 := (353, [some (.ref 0), some (.ref 1), some (.ref 73), some (.int v3)], [])) (h1 := zHp I860) (fun n => rfl) (fun hc => ?_) (fun hc => ?_)
        · rw [if_pos hc] at hf
          refine zEv_go 2 (f1 := (18, [some (.ref 0), some (.ref 1), some (.ref 73), some (.int (v3 + 5))], [])) (h1 := zHp I860) (fun n => rfl) ?_
          refine zEv_weak (L := [some (.ref 0), some (.ref 1), some (.ref 73), some (.int (v3 + 5))]) (by exact ⟨rfl, ⟨rfl, ⟨rfl, ⟨rfl, trivial⟩⟩⟩⟩) ?_
          exact ih hf
        · rw [if_neg hc] at hf
          cases hf
          exact zEv_ret 2 (fun n => rfl)
      rw [if_neg hc4] at hf
      by_cases hc5 : ((xs (Int32.toNatClampNeg v3)) &&& 31) = 5
      · rw [if_pos hc5] at hf
        refine zEv_tsk (off := 323) (t := 355) 5 (by rfl) hc5 (by decide) rfl rfl ?_
        obtain ⟨hc, hf⟩ := zGd_inv hf
        refine zEv_gd 6 (c := zIn (v3 + 1) L) (f1 := (361, [some (.ref 0), some (.ref 1), some (.ref 73), some (.int v3)], [.int (xs (Int32.toNatClampNeg (v3 + 1))), .ref 1])) (h1 := zHp I) (fun n => rfl) hc ?_
        obtain ⟨⟨x861, I862⟩, hx, hf⟩ := Option.bind_eq_some_iff.mp hf
        dsimp only at hf
        refine zEv_call 1 (N := 84) (vs := [.ref 1, .int (xs (Int32.toNatClampNeg (v3 + 1)))]) (v1 := some (.int x861)) (h1 := zHp I862) (L := [some (.ref 0), some (.ref 1), some (.ref 73), some (.int v3)]) (rest := []) (pc := 364) (fun n => rfl) (s_BM_say hx d (by omega)) rfl rfl ?_
        show zEv _ _ _ (364, [some (.ref 0), some (.ref 1), some (.ref 73), some (.int v3)], [.int x861]) _ _ _
        obtain ⟨hc, hf⟩ := zGd_inv hf
        refine zEv_gd 6 (c := zIn (v3 + 1) L) (f1 := (370, [some (.ref 0), some (.ref 1), some (.ref 73), some (.int v3)], [.int (xs (Int32.toNatClampNeg (v3 + 1))), .ref 73, .int x861])) (h1 := zHp I862) (fun n => rfl) hc ?_
        obtain ⟨⟨x863, I864⟩, hx, hf⟩ := Option.bind_eq_some_iff.mp hf
        dsimp only at hf
        refine zEv_call 1 (N := 131) (vs := [.ref 73, .int (xs (Int32.toNatClampNeg (v3 + 1)))]) (v1 := some (.int x863)) (h1 := zHp I864) (L := [some (.ref 0), some (.ref 1), some (.ref 73), some (.int v3)]) (rest := [.int x861]) (pc := 373) (fun n => rfl) (s_Mo_say hx d (by omega)) rfl rfl ?_
        show zEv _ _ _ (373, [some (.ref 0), some (.ref 1), some (.ref 73), some (.int v3)], [.int x863, .int x861]) _ _ _
        refine zEv_if 1 (c := x861 = x863) (f1 := (1034, [some (.ref 0), some (.ref 1), some (.ref 73), some (.int v3)], [])) (f2 := (376, [some (.ref 0), some (.ref 1), some (.ref 73), some (.int v3)], [])) (h1 := zHp I864) (fun n => rfl) (fun hc => ?_) (fun hc => ?_)
        · rw [if_pos hc] at hf
          refine zEv_go 2 (f1 := (18, [some (.ref 0), some (.ref 1), some (.ref 73), some (.int (v3 + 5))], [])) (h1 := zHp I864) (fun n => rfl) ?_
          refine zEv_weak (L := [some (.ref 0), some (.ref 1), some (.ref 73), some (.int (v3 + 5))]) (by exact ⟨rfl, ⟨rfl, ⟨rfl, ⟨rfl, trivial⟩⟩⟩⟩) ?_
          exact ih hf
        · rw [if_neg hc] at hf
          cases hf
          exact zEv_ret 2 (fun n => rfl)
      rw [if_neg hc5] at hf
      by_cases hc6 : ((xs (Int32.toNatClampNeg v3)) &&& 31) = 6
      · rw [if_pos hc6] at hf
        refine zEv_tsk (off := 346) (t := 378) 6 (by rfl) hc6 (by decide) rfl rfl ?_
        obtain ⟨⟨x865, I866⟩, hx, hf⟩ := Option.bind_eq_some_iff.mp hf
        dsimp only at hf
        refine zEv_call 2 (N := 85) (vs := [.ref 1]) (v1 := some (.int x865)) (h1 := zHp I866) (L := [some (.ref 0), some (.ref 1), some (.ref 73), some (.int v3)]) (rest := []) (pc := 382) (fun n => rfl) (s_BM_wipe hx d (by omega)) rfl rfl ?_
        show zEv _ _ _ (382, [some (.ref 0), some (.ref 1), some (.ref 73), some (.int v3)], [.int x865]) _ _ _
        obtain ⟨⟨x867, I868⟩, hx, hf⟩ := Option.bind_eq_some_iff.mp hf
        dsimp only at hf
        refine zEv_call 2 (N := 132) (vs := [.ref 73]) (v1 := some (.int x867)) (h1 := zHp I868) (L := [some (.ref 0), some (.ref 1), some (.ref 73), some (.int v3)]) (rest := [.int x865]) (pc := 386) (fun n => rfl) (s_Mo_wipe hx d (by omega)) rfl rfl ?_
        show zEv _ _ _ (386, [some (.ref 0), some (.ref 1), some (.ref 73), some (.int v3)], [.int x867, .int x865]) _ _ _
        refine zEv_if 1 (c := x865 = x867) (f1 := (1034, [some (.ref 0), some (.ref 1), some (.ref 73), some (.int v3)], [])) (f2 := (389, [some (.ref 0), some (.ref 1), some (.ref 73), some (.int v3)], [])) (h1 := zHp I868) (fun n => rfl) (fun hc => ?_) (fun hc => ?_)
        · rw [if_pos hc] at hf
          refine zEv_go 2 (f1 := (18, [some (.ref 0), some (.ref 1), some (.ref 73), some (.int (v3 + 5))], [])) (h1 := zHp I868) (fun n => rfl) ?_
          refine zEv_weak (L := [some (.ref 0), some (.ref 1), some (.ref 73), some (.int (v3 + 5))]) (by exact ⟨rfl, ⟨rfl, ⟨rfl, ⟨rfl, trivial⟩⟩⟩⟩) ?_
          exact ih hf
        · rw [if_neg hc] at hf
          cases hf
          exact zEv_ret 2 (fun n => rfl)
      rw [if_neg hc6] at hf
      by_cases hc7 : ((xs (Int32.toNatClampNeg v3)) &&& 31) = 7
      · rw [if_pos hc7] at hf
        refine zEv_tsk (off := 359) (t := 391) 7 (by rfl) hc7 (by decide) rfl rfl ?_
        obtain ⟨x869, hx, hf⟩ := Option.bind_eq_some_iff.mp hf
        refine zEv_call 2 (N := 86) (vs := [.ref 1]) (v1 := some (.int x869)) (h1 := zHp I) (L := [some (.ref 0), some (.ref 1), some (.ref 73), some (.int v3)]) (rest := []) (pc := 395) (fun n => rfl) (s_BM_fault hx d (by omega)) rfl rfl ?_
        show zEv _ _ _ (395, [some (.ref 0), some (.ref 1), some (.ref 73), some (.int v3)], [.int x869]) _ _ _
        obtain ⟨⟨x870, I871⟩, hx, hf⟩ := Option.bind_eq_some_iff.mp hf
        dsimp only at hf
        refine zEv_call 2 (N := 138) (vs := [.ref 73]) (v1 := some (.int x870)) (h1 := zHp I871) (L := [some (.ref 0), some (.ref 1), some (.ref 73), some (.int v3)]) (rest := [.int x869]) (pc := 399) (fun n => rfl) (s_Mo_fault hx d (by omega)) rfl rfl ?_
        show zEv _ _ _ (399, [some (.ref 0), some (.ref 1), some (.ref 73), some (.int v3)], [.int x870, .int x869]) _ _ _
        refine zEv_if 1 (c := x869 = x870) (f1 := (1034, [some (.ref 0), some (.ref 1), some (.ref 73), some (.int v3)], [])) (f2 := (402, [some (.ref 0), some (.ref 1), some (.ref 73), some (.int v3)], [])) (h1 := zHp I871) (fun n => rfl) (fun hc => ?_) (fun hc => ?_)
        · rw [if_pos hc] at hf
          refine zEv_go 2 (f1 := (18, [some (.ref 0), some (.ref 1), some (.ref 73), some (.int (v3 + 5))], [])) (h1 := zHp I871) (fun n => rfl) ?_
          refine zEv_weak (L := [some (.ref 0), some (.ref 1), some (.ref 73), some (.int (v3 + 5))]) (by exact ⟨rfl, ⟨rfl, ⟨rfl, ⟨rfl, trivial⟩⟩⟩⟩) ?_
          exact ih hf
        · rw [if_neg hc] at hf
          cases hf
          exact zEv_ret 2 (fun n => rfl)
      rw [if_neg hc7] at hf
      by_cases hc8 : ((xs (Int32.toNatClampNeg v3)) &&& 31) = 8
      · rw [if_pos hc8] at hf
        refine zEv_tsk (off := 372) (t := 404) 8 (by rfl) hc8 (by decide) rfl rfl ?_
        obtain ⟨hc, hf⟩ := zGd_inv hf
        refine zEv_gd 6 (c := zIn (v3 + 1) L) (f1 := (410, [some (.ref 0), some (.ref 1), some (.ref 73), some (.int v3)], [.int (xs (Int32.toNatClampNeg (v3 + 1))), .ref 1])) (h1 := zHp I) (fun n => rfl) hc ?_
        obtain ⟨⟨x872, I873⟩, hx, hf⟩ := Option.bind_eq_some_iff.mp hf
        dsimp only at hf
        refine zEv_call 1 (N := 87) (vs := [.ref 1, .int (xs (Int32.toNatClampNeg (v3 + 1)))]) (v1 := some (.int x872)) (h1 := zHp I873) (L := [some (.ref 0), some (.ref 1), some (.ref 73), some (.int v3)]) (rest := []) (pc := 413) (fun n => rfl) (s_BM_judge hx d (by omega)) rfl rfl ?_
        show zEv _ _ _ (413, [some (.ref 0), some (.ref 1), some (.ref 73), some (.int v3)], [.int x872]) _ _ _
        obtain ⟨hc, hf⟩ := zGd_inv hf
        refine zEv_gd 6 (c := zIn (v3 + 1) L) (f1 := (419, [some (.ref 0), some (.ref 1), some (.ref 73), some (.int v3)], [.int (xs (Int32.toNatClampNeg (v3 + 1))), .ref 73, .int x872])) (h1 := zHp I873) (fun n => rfl) hc ?_
        obtain ⟨⟨x874, I875⟩, hx, hf⟩ := Option.bind_eq_some_iff.mp hf
        dsimp only at hf
        refine zEv_call 1 (N := 151) (vs := [.ref 73, .int (xs (Int32.toNatClampNeg (v3 + 1)))]) (v1 := some (.int x874)) (h1 := zHp I875) (L := [some (.ref 0), some (.ref 1), some (.ref 73), some (.int v3)]) (rest := [.int x872]) (pc := 422) (fun n => rfl) (s_Mo_judge hx d (by omega)) rfl rfl ?_
        show zEv _ _ _ (422, [some (.ref 0), some (.ref 1), some (.ref 73), some (.int v3)], [.int x874, .int x872]) _ _ _
        refine zEv_if 1 (c := x872 = x874) (f1 := (1034, [some (.ref 0), some (.ref 1), some (.ref 73), some (.int v3)], [])) (f2 := (425, [some (.ref 0), some (.ref 1), some (.ref 73), some (.int v3)], [])) (h1 := zHp I875) (fun n => rfl) (fun hc => ?_) (fun hc => ?_)
        · rw [if_pos hc] at hf
          refine zEv_go 2 (f1 := (18, [some (.ref 0), some (.ref 1), some (.ref 73), some (.int (v3 + 5))], [])) (h1 := zHp I875) (fun n => rfl) ?_
          refine zEv_weak (L := [some (.ref 0), some (.ref 1), some (.ref 73), some (.int (v3 + 5))]) (by exact ⟨rfl, ⟨rfl, ⟨rfl, ⟨rfl, trivial⟩⟩⟩⟩) ?_
          exact ih hf
        · rw [if_neg hc] at hf
          cases hf
          exact zEv_ret 2 (fun n => rfl)
      rw [if_neg hc8] at hf
      by_cases hc9 : ((xs (Int32.toNatClampNeg v3)) &&& 31) = 9
      · rw [if_pos hc9] at hf
        refine zEv_tsk (off := 395) (t := 427) 9 (by rfl) hc9 (by decide) rfl rfl ?_
        obtain ⟨hc, hf⟩ := zGd_inv hf
        refine zEv_gd 6 (c := zIn (v3 + 1) L) (f1 := (433, [some (.ref 0), some (.ref 1), some (.ref 73), some (.int v3)], [.int (xs (Int32.toNatClampNeg (v3 + 1))), .ref 1])) (h1 := zHp I) (fun n => rfl) hc ?_
        obtain ⟨hc, hf⟩ := zGd_inv hf
        refine zEv_gd 5 (c := zIn (v3 + 2) L) (f1 := (438, [some (.ref 0), some (.ref 1), some (.ref 73), some (.int v3)], [.int (xs (Int32.toNatClampNeg (v3 + 2))), .int (xs (Int32.toNatClampNeg (v3 + 1))), .ref 1])) (h1 := zHp I) (fun n => rfl) hc ?_
        obtain ⟨⟨x876, I877⟩, hx, hf⟩ := Option.bind_eq_some_iff.mp hf
        dsimp only at hf
        refine zEv_call 1 (N := 88) (vs := [.ref 1, .int (xs (Int32.toNatClampNeg (v3 + 1))), .int (xs (Int32.toNatClampNeg (v3 + 2)))]) (v1 := some (.int x876)) (h1 := zHp I877) (L := [some (.ref 0), some (.ref 1), some (.ref 73), some (.int v3)]) (rest := []) (pc := 441) (fun n => rfl) (s_BM_behind hx d (by omega)) rfl rfl ?_
        show zEv _ _ _ (441, [some (.ref 0), some (.ref 1), some (.ref 73), some (.int v3)], [.int x876]) _ _ _
        obtain ⟨hc, hf⟩ := zGd_inv hf
        refine zEv_gd 6 (c := zIn (v3 + 1) L) (f1 := (447, [some (.ref 0), some (.ref 1), some (.ref 73), some (.int v3)], [.int (xs (Int32.toNatClampNeg (v3 + 1))), .ref 73, .int x876])) (h1 := zHp I877) (fun n => rfl) hc ?_
        obtain ⟨hc, hf⟩ := zGd_inv hf
        refine zEv_gd 5 (c := zIn (v3 + 2) L) (f1 := (452, [some (.ref 0), some (.ref 1), some (.ref 73), some (.int v3)], [.int (xs (Int32.toNatClampNeg (v3 + 2))), .int (xs (Int32.toNatClampNeg (v3 + 1))), .ref 73, .int x876])) (h1 := zHp I877) (fun n => rfl) hc ?_
        obtain ⟨⟨x878, I879⟩, hx, hf⟩ := Option.bind_eq_some_iff.mp hf
        dsimp only at hf
        refine zEv_call 1 (N := 152) (vs := [.ref 73, .int (xs (Int32.toNatClampNeg (v3 + 1))), .int (xs (Int32.toNatClampNeg (v3 + 2)))]) (v1 := some (.int x878)) (h1 := zHp I879) (L := [some (.ref 0), some (.ref 1), some (.ref 73), some (.int v3)]) (rest := [.int x876]) (pc := 455) (fun n => rfl) (s_Mo_behind hx d (by omega)) rfl rfl ?_
        show zEv _ _ _ (455, [some (.ref 0), some (.ref 1), some (.ref 73), some (.int v3)], [.int x878, .int x876]) _ _ _
        refine zEv_if 1 (c := x876 = x878) (f1 := (1034, [some (.ref 0), some (.ref 1), some (.ref 73), some (.int v3)], [])) (f2 := (458, [some (.ref 0), some (.ref 1), some (.ref 73), some (.int v3)], [])) (h1 := zHp I879) (fun n => rfl) (fun hc => ?_) (fun hc => ?_)
        · rw [if_pos hc] at hf
          refine zEv_go 2 (f1 := (18, [some (.ref 0), some (.ref 1), some (.ref 73), some (.int (v3 + 5))], [])) (h1 := zHp I879) (fun n => rfl) ?_
          refine zEv_weak (L := [some (.ref 0), some (.ref 1), some (.ref 73), some (.int (v3 + 5))]) (by exact ⟨rfl, ⟨rfl, ⟨rfl, ⟨rfl, trivial⟩⟩⟩⟩) ?_
          exact ih hf
        · rw [if_neg hc] at hf
          cases hf
          exact zEv_ret 2 (fun n => rfl)
      rw [if_neg hc9] at hf
      by_cases hc10 : ((xs (Int32.toNatClampNeg v3)) &&& 31) = 10
      · rw [if_pos hc10] at hf
        refine zEv_tsk (off := 428) (t := 460) 10 (by rfl) hc10 (by decide) rfl rfl ?_
        obtain ⟨hc, hf⟩ := zGd_inv hf
        refine zEv_gd 6 (c := zIn (v3 + 1) L) (f1 := (466, [some (.ref 0), some (.ref 1), some (.ref 73), some (.int v3)], [.int (xs (Int32.toNatClampNeg (v3 + 1))), .ref 1])) (h1 := zHp I) (fun n => rfl) hc ?_
        obtain ⟨hc, hf⟩ := zGd_inv hf
        refine zEv_gd 5 (c := zIn (v3 + 2) L) (f1 := (471, [some (.ref 0), some (.ref 1), some (.ref 73), some (.int v3)], [.int (xs (Int32.toNatClampNeg (v3 + 2))), .int (xs (Int32.toNatClampNeg (v3 + 1))), .ref 1])) (h1 := zHp I) (fun n => rfl) hc ?_
        obtain ⟨⟨x880, I881⟩, hx, hf⟩ := Option.bind_eq_some_iff.mp hf
        dsimp only at hf
        refine zEv_call 1 (N := 89) (vs := [.ref 1, .int (xs (Int32.toNatClampNeg (v3 + 1))), .int (xs (Int32.toNatClampNeg (v3 + 2)))]) (v1 := some (.int x880)) (h1 := zHp I881) (L := [some (.ref 0), some (.ref 1), some (.ref 73), some (.int v3)]) (rest := []) (pc := 474) (fun n => rfl) (s_BM_lies hx d (by omega)) rfl rfl ?_
        show zEv _ _ _ (474, [some (.ref 0), some (.ref 1), some (.ref 73), some (.int v3)], [.int x880]) _ _ _
        obtain ⟨hc, hf⟩ := zGd_inv hf
        refine zEv_gd 6 (c := zIn (v3 + 1) L) (f1 := (480, [some (.ref 0), some (.ref 1), some (.ref 73), some (.int v3)], [.int (xs (Int32.toNatClampNeg (v3 + 1))), .ref 73, .int x880])) (h1 := zHp I881) (fun n => rfl) hc ?_
        obtain ⟨hc, hf⟩ := zGd_inv hf
        refine zEv_gd 5 (c := zIn (v3 + 2) L) (f1 := (485, [some (.ref 0), some (.ref 1), some (.ref 73), some (.int v3)], [.int (xs (Int32.toNatClampNeg (v3 + 2))), .int (xs (Int32.toNatClampNeg (v3 + 1))), .ref 73, .int x880])) (h1 := zHp I881) (fun n => rfl) hc ?_
        obtain ⟨⟨x882, I883⟩, hx, hf⟩ := Option.bind_eq_some_iff.mp hf
        dsimp only at hf
        refine zEv_call 1 (N := 153) (vs := [.ref 73, .int (xs (Int32.toNatClampNeg (v3 + 1))), .int (xs (Int32.toNatClampNeg (v3 + 2)))]) (v1 := some (.int x882)) (h1 := zHp I883) (L := [some (.ref 0), some (.ref 1), some (.ref 73), some (.int v3)]) (rest := [.int x880]) (pc := 488) (fun n => rfl) (s_Mo_lies hx d (by omega)) rfl rfl ?_
        show zEv _ _ _ (488, [some (.ref 0), some (.ref 1), some (.ref 73), some (.int v3)], [.int x882, .int x880]) _ _ _
        refine zEv_if 1 (c := x880 = x882) (f1 := (1034, [some (.ref 0), some (.ref 1), some (.ref 73), some (.int v3)], [])) (f2 := (491, [some (.ref 0), some (.ref 1), some (.ref 73), some (.int v3)], [])) (h1 := zHp I883) (fun n => rfl) (fun hc => ?_) (fun hc => ?_)
        · rw [if_pos hc] at hf
          refine zEv_go 2 (f1 := (18, [some (.ref 0), some (.ref 1), some (.ref 73), some (.int (v3 + 5))], [])) (h1 := zHp I883) (fun n => rfl) ?_
          refine zEv_weak (L := [some (.ref 0), some (.ref 1), some (.ref 73), some (.int (v3 + 5))]) (by exact ⟨rfl, ⟨rfl, ⟨rfl, ⟨rfl, trivial⟩⟩⟩⟩) ?_
          exact ih hf
        · rw [if_neg hc] at hf
          cases hf
          exact zEv_ret 2 (fun n => rfl)
      rw [if_neg hc10] at hf
      by_cases hc11 : ((xs (Int32.toNatClampNeg v3)) &&& 31) = 11
      · rw [if_pos hc11] at hf
        refine zEv_tsk (off := 461) (t := 493) 11 (by rfl) hc11 (by decide) rfl rfl ?_
        obtain ⟨hc, hf⟩ := zGd_inv hf
        refine zEv_gd 6 (c := zIn (v3 + 1) L) (f1 := (499, [some (.ref 0), some (.ref 1), some (.ref 73), some (.int v3)], [.int (xs (Int32.toNatClampNeg (v3 + 1))), .ref 1])) (h1 := zHp I) (fun n => rfl) hc ?_
        obtain ⟨hc, hf⟩ := zGd_inv hf
        refine zEv_gd 5 (c := zIn (v3 + 2) L) (f1 := (504, [some (.ref 0), some (.ref 1), some (.ref 73), some (.int v3)], [.int (xs (Int32.toNatClampNeg (v3 + 2))), .int (xs (Int32.toNatClampNeg (v3 + 1))), .ref 1])) (h1 := zHp I) (fun n => rfl) hc ?_
        obtain ⟨⟨x884, I885⟩, hx, hf⟩ := Option.bind_eq_some_iff.mp hf
        dsimp only at hf
        refine zEv_call 1 (N := 90) (vs := [.ref 1, .int (xs (Int32.toNatClampNeg (v3 + 1))), .int (xs (Int32.toNatClampNeg (v3 + 2)))]) (v1 := some (.int x884)) (h1 := zHp I885) (L := [some (.ref 0), some (.ref 1), some (.ref 73), some (.int v3)]) (rest := []) (pc := 507) (fun n => rfl) (s_BM_hands hx d (by omega)) rfl rfl ?_
        show zEv _ _ _ (507, [some (.ref 0), some (.ref 1), some (.ref 73), some (.int v3)], [.int x884]) _ _ _
        obtain ⟨hc, hf⟩ := zGd_inv hf
        refine zEv_gd 6 (c := zIn (v3 + 1) L) (f1 := (513, [some (.ref 0), some (.ref 1), some (.ref 73), some (.int v3)], [.int (xs (Int32.toNatClampNeg (v3 + 1))), .ref 73, .int x884])) (h1 := zHp I885) (fun n => rfl) hc ?_
        obtain ⟨hc, hf⟩ := zGd_inv hf
        refine zEv_gd 5 (c := zIn (v3 + 2) L) (f1 := (518, [some (.ref 0), some (.ref 1), some (.ref 73), some (.int v3)], [.int (xs (Int32.toNatClampNeg (v3 + 2))), .int (xs (Int32.toNatClampNeg (v3 + 1))), .ref 73, .int x884])) (h1 := zHp I885) (fun n => rfl) hc ?_
        obtain ⟨⟨x886, I887⟩, hx, hf⟩ := Option.bind_eq_some_iff.mp hf
        dsimp only at hf
        refine zEv_call 1 (N := 154) (vs := [.ref 73, .int (xs (Int32.toNatClampNeg (v3 + 1))), .int (xs (Int32.toNatClampNeg (v3 + 2)))]) (v1 := some (.int x886)) (h1 := zHp I887) (L := [some (.ref 0), some (.ref 1), some (.ref 73), some (.int v3)]) (rest := [.int x884]) (pc := 521) (fun n => rfl) (s_Mo_hands hx d (by omega)) rfl rfl ?_
        show zEv _ _ _ (521, [some (.ref 0), some (.ref 1), some (.ref 73), some (.int v3)], [.int x886, .int x884]) _ _ _
        refine zEv_if 1 (c := x884 = x886) (f1 := (1034, [some (.ref 0), some (.ref 1), some (.ref 73), some (.int v3)], [])) (f2 := (524, [some (.ref 0), some (.ref 1), some (.ref 73), some (.int v3)], [])) (h1 := zHp I887) (fun n => rfl) (fun hc => ?_) (fun hc => ?_)
        · rw [if_pos hc] at hf
          refine zEv_go 2 (f1 := (18, [some (.ref 0), some (.ref 1), some (.ref 73), some (.int (v3 + 5))], [])) (h1 := zHp I887) (fun n => rfl) ?_
          refine zEv_weak (L := [some (.ref 0), some (.ref 1), some (.ref 73), some (.int (v3 + 5))]) (by exact ⟨rfl, ⟨rfl, ⟨rfl, ⟨rfl, trivial⟩⟩⟩⟩) ?_
          exact ih hf
        · rw [if_neg hc] at hf
          cases hf
          exact zEv_ret 2 (fun n => rfl)
      rw [if_neg hc11] at hf
      by_cases hc12 : ((xs (Int32.toNatClampNeg v3)) &&& 31) = 12
      · rw [if_pos hc12] at hf
        refine zEv_tsk (off := 494) (t := 526) 12 (by rfl) hc12 (by decide) rfl rfl ?_
        obtain ⟨⟨x888, I889⟩, hx, hf⟩ := Option.bind_eq_some_iff.mp hf
        dsimp only at hf
        refine zEv_call 2 (N := 91) (vs := [.ref 1]) (v1 := some (.int x888)) (h1 := zHp I889) (L := [some (.ref 0), some (.ref 1), some (.ref 73), some (.int v3)]) (rest := []) (pc := 530) (fun n => rfl) (s_BM_most hx d (by omega)) rfl rfl ?_
        show zEv _ _ _ (530, [some (.ref 0), some (.ref 1), some (.ref 73), some (.int v3)], [.int x888]) _ _ _
        obtain ⟨⟨x890, I891⟩, hx, hf⟩ := Option.bind_eq_some_iff.mp hf
        dsimp only at hf
        refine zEv_call 2 (N := 155) (vs := [.ref 73]) (v1 := some (.int x890)) (h1 := zHp I891) (L := [some (.ref 0), some (.ref 1), some (.ref 73), some (.int v3)]) (rest := [.int x888]) (pc := 534) (fun n => rfl) (s_Mo_most hx d (by omega)) rfl rfl ?_
        show zEv _ _ _ (534, [some (.ref 0), some (.ref 1), some (.ref 73), some (.int v3)], [.int x890, .int x888]) _ _ _
        refine zEv_if 1 (c := x888 = x890) (f1 := (1034, [some (.ref 0), some (.ref 1), some (.ref 73), some (.int v3)], [])) (f2 := (537, [some (.ref 0), some (.ref 1), some (.ref 73), some (.int v3)], [])) (h1 := zHp I891) (fun n => rfl) (fun hc => ?_) (fun hc => ?_)
        · rw [if_pos hc] at hf
          refine zEv_go 2 (f1 := (18, [some (.ref 0), some (.ref 1), some (.ref 73), some (.int (v3 + 5))], [])) (h1 := zHp I891) (fun n => rfl) ?_
          refine zEv_weak (L := [some (.ref 0), some (.ref 1), some (.ref 73), some (.int (v3 + 5))]) (by exact ⟨rfl, ⟨rfl, ⟨rfl, ⟨rfl, trivial⟩⟩⟩⟩) ?_
          exact ih hf
        · rw [if_neg hc] at hf
          cases hf
          exact zEv_ret 2 (fun n => rfl)
      rw [if_neg hc12] at hf
      by_cases hc13 : ((xs (Int32.toNatClampNeg v3)) &&& 31) = 13
      · rw [if_pos hc13] at hf
        refine zEv_tsk (off := 507) (t := 539) 13 (by rfl) hc13 (by decide) rfl rfl ?_
        obtain ⟨⟨x892, I893⟩, hx, hf⟩ := Option.bind_eq_some_iff.mp hf
        dsimp only at hf
        refine zEv_call 2 (N := 92) (vs := [.ref 1]) (v1 := some (.int x892)) (h1 := zHp I893) (L := [some (.ref 0), some (.ref 1), some (.ref 73), some (.int v3)]) (rest := []) (pc := 543) (fun n => rfl) (s_BM_done hx d (by omega)) rfl rfl ?_
        show zEv _ _ _ (543, [some (.ref 0), some (.ref 1), some (.ref 73), some (.int v3)], [.int x892]) _ _ _
        obtain ⟨⟨x894, I895⟩, hx, hf⟩ := Option.bind_eq_some_iff.mp hf
        dsimp only at hf
        refine zEv_call 2 (N := 156) (vs := [.ref 73]) (v1 := some (.int x894)) (h1 := zHp I895) (L := [some (.ref 0), some (.ref 1), some (.ref 73), some (.int v3)]) (rest := [.int x892]) (pc := 547) (fun n => rfl) (s_Mo_done hx d (by omega)) rfl rfl ?_
        show zEv _ _ _ (547, [some (.ref 0), some (.ref 1), some (.ref 73), some (.int v3)], [.int x894, .int x892]) _ _ _
        refine zEv_if 1 (c := x892 = x894) (f1 := (1034, [some (.ref 0), some (.ref 1), some (.ref 73), some (.int v3)], [])) (f2 := (550, [some (.ref 0), some (.ref 1), some (.ref 73), some (.int v3)], [])) (h1 := zHp I895) (fun n => rfl) (fun hc => ?_) (fun hc => ?_)
        · rw [if_pos hc] at hf
          refine zEv_go 2 (f1 := (18, [some (.ref 0), some (.ref 1), some (.ref 73), some (.int (v3 + 5))], [])) (h1 := zHp I895) (fun n => rfl) ?_
          refine zEv_weak (L := [some (.ref 0), some (.ref 1), some (.ref 73), some (.int (v3 + 5))]) (by exact ⟨rfl, ⟨rfl, ⟨rfl, ⟨rfl, trivial⟩⟩⟩⟩) ?_
          exact ih hf
        · rw [if_neg hc] at hf
          cases hf
          exact zEv_ret 2 (fun n => rfl)
      rw [if_neg hc13] at hf
      by_cases hc14 : ((xs (Int32.toNatClampNeg v3)) &&& 31) = 14
      · rw [if_pos hc14] at hf
        refine zEv_tsk (off := 520) (t := 552) 14 (by rfl) hc14 (by decide) rfl rfl ?_
        obtain ⟨hc, hf⟩ := zGd_inv hf
        refine zEv_gd 6 (c := zIn (v3 + 1) L) (f1 := (558, [some (.ref 0), some (.ref 1), some (.ref 73), some (.int v3)], [.int (xs (Int32.toNatClampNeg (v3 + 1))), .ref 1])) (h1 := zHp I) (fun n => rfl) hc ?_
        obtain ⟨hc, hf⟩ := zGd_inv hf
        refine zEv_gd 5 (c := zIn (v3 + 2) L) (f1 := (563, [some (.ref 0), some (.ref 1), some (.ref 73), some (.int v3)], [.int (xs (Int32.toNatClampNeg (v3 + 2))), .int (xs (Int32.toNatClampNeg (v3 + 1))), .ref 1])) (h1 := zHp I) (fun n => rfl) hc ?_
        obtain ⟨x896, hx, hf⟩ := Option.bind_eq_some_iff.mp hf
        refine zEv_call 1 (N := 93) (vs := [.ref 1, .int (xs (Int32.toNatClampNeg (v3 + 1))), .int (xs (Int32.toNatClampNeg (v3 + 2)))]) (v1 := some (.int x896)) (h1 := zHp I) (L := [some (.ref 0), some (.ref 1), some (.ref 73), some (.int v3)]) (rest := []) (pc := 566) (fun n => rfl) (s_BM_steps hx d (by omega)) rfl rfl ?_
        show zEv _ _ _ (566, [some (.ref 0), some (.ref 1), some (.ref 73), some (.int v3)], [.int x896]) _ _ _
        obtain ⟨hc, hf⟩ := zGd_inv hf
        refine zEv_gd 6 (c := zIn (v3 + 1) L) (f1 := (572, [some (.ref 0), some (.ref 1), some (.ref 73), some (.int v3)], [.int (xs (Int32.toNatClampNeg (v3 + 1))), .ref 73, .int x896])) (h1 := zHp I) (fun n => rfl) hc ?_
        obtain ⟨hc, hf⟩ := zGd_inv hf
        refine zEv_gd 5 (c := zIn (v3 + 2) L) (f1 := (577, [some (.ref 0), some (.ref 1), some (.ref 73), some (.int v3)], [.int (xs (Int32.toNatClampNeg (v3 + 2))), .int (xs (Int32.toNatClampNeg (v3 + 1))), .ref 73, .int x896])) (h1 := zHp I) (fun n => rfl) hc ?_
        obtain ⟨x897, hx, hf⟩ := Option.bind_eq_some_iff.mp hf
        refine zEv_call 1 (N := 158) (vs := [.ref 73, .int (xs (Int32.toNatClampNeg (v3 + 1))), .int (xs (Int32.toNatClampNeg (v3 + 2)))]) (v1 := some (.int x897)) (h1 := zHp I) (L := [some (.ref 0), some (.ref 1), some (.ref 73), some (.int v3)]) (rest := [.int x896]) (pc := 580) (fun n => rfl) (s_Mo_steps hx d (by omega)) rfl rfl ?_
        show zEv _ _ _ (580, [some (.ref 0), some (.ref 1), some (.ref 73), some (.int v3)], [.int x897, .int x896]) _ _ _
        refine zEv_if 1 (c := x896 = x897) (f1 := (1034, [some (.ref 0), some (.ref 1), some (.ref 73), some (.int v3)], [])) (f2 := (583, [some (.ref 0), some (.ref 1), some (.ref 73), some (.int v3)], [])) (h1 := zHp I) (fun n => rfl) (fun hc => ?_) (fun hc => ?_)
        · rw [if_pos hc] at hf
          refine zEv_go 2 (f1 := (18, [some (.ref 0), some (.ref 1), some (.ref 73), some (.int (v3 + 5))], [])) (h1 := zHp I) (fun n => rfl) ?_
          refine zEv_weak (L := [some (.ref 0), some (.ref 1), some (.ref 73), some (.int (v3 + 5))]) (by exact ⟨rfl, ⟨rfl, ⟨rfl, ⟨rfl, trivial⟩⟩⟩⟩) ?_
          exact ih hf
        · rw [if_neg hc] at hf
          cases hf
          exact zEv_ret 2 (fun n => rfl)
      rw [if_neg hc14] at hf
      by_cases hc15 : ((xs (Int32.toNatClampNeg v3)) &&& 31) = 15
      · rw [if_pos hc15] at hf
        refine zEv_tsk (off := 553) (t := 585) 15 (by rfl) hc15 (by decide) rfl rfl ?_
        obtain ⟨hc, hf⟩ := zGd_inv hf
        refine zEv_gd 6 (c := zIn (v3 + 1) L) (f1 := (591, [some (.ref 0), some (.ref 1), some (.ref 73), some (.int v3)], [.int (xs (Int32.toNatClampNeg (v3 + 1))), .ref 1])) (h1 := zHp I) (fun n => rfl) hc ?_
        obtain ⟨hc, hf⟩ := zGd_inv hf
        refine zEv_gd 5 (c := zIn (v3 + 2) L) (f1 := (596, [some (.ref 0), some (.ref 1), some (.ref 73), some (.int v3)], [.int (xs (Int32.toNatClampNeg (v3 + 2))), .int (xs (Int32.toNatClampNeg (v3 + 1))), .ref 1])) (h1 := zHp I) (fun n => rfl) hc ?_
        obtain ⟨x898, hx, hf⟩ := Option.bind_eq_some_iff.mp hf
        refine zEv_call 1 (N := 94) (vs := [.ref 1, .int (xs (Int32.toNatClampNeg (v3 + 1))), .int (xs (Int32.toNatClampNeg (v3 + 2)))]) (v1 := some (.int x898)) (h1 := zHp I) (L := [some (.ref 0), some (.ref 1), some (.ref 73), some (.int v3)]) (rest := []) (pc := 599) (fun n => rfl) (s_BM_get hx d (by omega)) rfl rfl ?_
        show zEv _ _ _ (599, [some (.ref 0), some (.ref 1), some (.ref 73), some (.int v3)], [.int x898]) _ _ _
        obtain ⟨hc, hf⟩ := zGd_inv hf
        refine zEv_gd 6 (c := zIn (v3 + 1) L) (f1 := (605, [some (.ref 0), some (.ref 1), some (.ref 73), some (.int v3)], [.int (xs (Int32.toNatClampNeg (v3 + 1))), .ref 73, .int x898])) (h1 := zHp I) (fun n => rfl) hc ?_
        obtain ⟨hc, hf⟩ := zGd_inv hf
        refine zEv_gd 5 (c := zIn (v3 + 2) L) (f1 := (610, [some (.ref 0), some (.ref 1), some (.ref 73), some (.int v3)], [.int (xs (Int32.toNatClampNeg (v3 + 2))), .int (xs (Int32.toNatClampNeg (v3 + 1))), .ref 73, .int x898])) (h1 := zHp I) (fun n => rfl) hc ?_
        obtain ⟨x899, hx, hf⟩ := Option.bind_eq_some_iff.mp hf
        refine zEv_call 1 (N := 159) (vs := [.ref 73, .int (xs (Int32.toNatClampNeg (v3 + 1))), .int (xs (Int32.toNatClampNeg (v3 + 2)))]) (v1 := some (.int x899)) (h1 := zHp I) (L := [some (.ref 0), some (.ref 1), some (.ref 73), some (.int v3)]) (rest := [.int x898]) (pc := 613) (fun n => rfl) (s_Mo_get hx d (by omega)) rfl rfl ?_
        show zEv _ _ _ (613, [some (.ref 0), some (.ref 1), some (.ref 73), some (.int v3)], [.int x899, .int x898]) _ _ _
        refine zEv_if 1 (c := x898 = x899) (f1 := (1034, [some (.ref 0), some (.ref 1), some (.ref 73), some (.int v3)], [])) (f2 := (616, [some (.ref 0), some (.ref 1), some (.ref 73), some (.int v3)], [])) (h1 := zHp I) (fun n => rfl) (fun hc => ?_) (fun hc => ?_)
        · rw [if_pos hc] at hf
          refine zEv_go 2 (f1 := (18, [some (.ref 0), some (.ref 1), some (.ref 73), some (.int (v3 + 5))], [])) (h1 := zHp I) (fun n => rfl) ?_
          refine zEv_weak (L := [some (.ref 0), some (.ref 1), some (.ref 73), some (.int (v3 + 5))]) (by exact ⟨rfl, ⟨rfl, ⟨rfl, ⟨rfl, trivial⟩⟩⟩⟩) ?_
          exact ih hf
        · rw [if_neg hc] at hf
          cases hf
          exact zEv_ret 2 (fun n => rfl)
      rw [if_neg hc15] at hf
      by_cases hc16 : ((xs (Int32.toNatClampNeg v3)) &&& 31) = 16
      · rw [if_pos hc16] at hf
        refine zEv_tsk (off := 586) (t := 618) 16 (by rfl) hc16 (by decide) rfl rfl ?_
        obtain ⟨hc, hf⟩ := zGd_inv hf
        refine zEv_gd 6 (c := zIn (v3 + 1) L) (f1 := (624, [some (.ref 0), some (.ref 1), some (.ref 73), some (.int v3)], [.int (xs (Int32.toNatClampNeg (v3 + 1))), .ref 1])) (h1 := zHp I) (fun n => rfl) hc ?_
        obtain ⟨hc, hf⟩ := zGd_inv hf
        refine zEv_gd 5 (c := zIn (v3 + 2) L) (f1 := (629, [some (.ref 0), some (.ref 1), some (.ref 73), some (.int v3)], [.int (xs (Int32.toNatClampNeg (v3 + 2))), .int (xs (Int32.toNatClampNeg (v3 + 1))), .ref 1])) (h1 := zHp I) (fun n => rfl) hc ?_
        obtain ⟨⟨x900, I901⟩, hx, hf⟩ := Option.bind_eq_some_iff.mp hf
        dsimp only at hf
        refine zEv_call 1 (N := 95) (vs := [.ref 1, .int (xs (Int32.toNatClampNeg (v3 + 1))), .int (xs (Int32.toNatClampNeg (v3 + 2)))]) (v1 := some (.int x900)) (h1 := zHp I901) (L := [some (.ref 0), some (.ref 1), some (.ref 73), some (.int v3)]) (rest := []) (pc := 632) (fun n => rfl) (s_BM_round hx d (by omega)) rfl rfl ?_
        show zEv _ _ _ (632, [some (.ref 0), some (.ref 1), some (.ref 73), some (.int v3)], [.int x900]) _ _ _
        obtain ⟨hc, hf⟩ := zGd_inv hf
        refine zEv_gd 6 (c := zIn (v3 + 1) L) (f1 := (638, [some (.ref 0), some (.ref 1), some (.ref 73), some (.int v3)], [.int (xs (Int32.toNatClampNeg (v3 + 1))), .ref 73, .int x900])) (h1 := zHp I901) (fun n => rfl) hc ?_
        obtain ⟨hc, hf⟩ := zGd_inv hf
        refine zEv_gd 5 (c := zIn (v3 + 2) L) (f1 := (643, [some (.ref 0), some (.ref 1), some (.ref 73), some (.int v3)], [.int (xs (Int32.toNatClampNeg (v3 + 2))), .int (xs (Int32.toNatClampNeg (v3 + 1))), .ref 73, .int x900])) (h1 := zHp I901) (fun n => rfl) hc ?_
        obtain ⟨⟨x902, I903⟩, hx, hf⟩ := Option.bind_eq_some_iff.mp hf
        dsimp only at hf
        refine zEv_call 1 (N := 163) (vs := [.ref 73, .int (xs (Int32.toNatClampNeg (v3 + 1))), .int (xs (Int32.toNatClampNeg (v3 + 2)))]) (v1 := some (.int x902)) (h1 := zHp I903) (L := [some (.ref 0), some (.ref 1), some (.ref 73), some (.int v3)]) (rest := [.int x900]) (pc := 646) (fun n => rfl) (s_Mo_round hx d (by omega)) rfl rfl ?_
        show zEv _ _ _ (646, [some (.ref 0), some (.ref 1), some (.ref 73), some (.int v3)], [.int x902, .int x900]) _ _ _
        refine zEv_if 1 (c := x900 = x902) (f1 := (1034, [some (.ref 0), some (.ref 1), some (.ref 73), some (.int v3)], [])) (f2 := (649, [some (.ref 0), some (.ref 1), some (.ref 73), some (.int v3)], [])) (h1 := zHp I903) (fun n => rfl) (fun hc => ?_) (fun hc => ?_)
        · rw [if_pos hc] at hf
          refine zEv_go 2 (f1 := (18, [some (.ref 0), some (.ref 1), some (.ref 73), some (.int (v3 + 5))], [])) (h1 := zHp I903) (fun n => rfl) ?_
          refine zEv_weak (L := [some (.ref 0), some (.ref 1), some (.ref 73), some (.int (v3 + 5))]) (by exact ⟨rfl, ⟨rfl, ⟨rfl, ⟨rfl, trivial⟩⟩⟩⟩) ?_
          exact ih hf
        · rw [if_neg hc] at hf
          cases hf
          exact zEv_ret 2 (fun n => rfl)
      rw [if_neg hc16] at hf
      by_cases hc17 : ((xs (Int32.toNatClampNeg v3)) &&& 31) = 17
      · rw [if_pos hc17] at hf
        refine zEv_tsk (off := 619) (t := 651) 17 (by rfl) hc17 (by decide) rfl rfl ?_
        obtain ⟨hc, hf⟩ := zGd_inv hf
        refine zEv_gd 6 (c := zIn (v3 + 1) L) (f1 := (657, [some (.ref 0), some (.ref 1), some (.ref 73), some (.int v3)], [.int (xs (Int32.toNatClampNeg (v3 + 1))), .ref 1])) (h1 := zHp I) (fun n => rfl) hc ?_
        obtain ⟨hc, hf⟩ := zGd_inv hf
        refine zEv_gd 5 (c := zIn (v3 + 2) L) (f1 := (662, [some (.ref 0), some (.ref 1), some (.ref 73), some (.int v3)], [.int (xs (Int32.toNatClampNeg (v3 + 2))), .int (xs (Int32.toNatClampNeg (v3 + 1))), .ref 1])) (h1 := zHp I) (fun n => rfl) hc ?_
        obtain ⟨⟨x904, I905⟩, hx, hf⟩ := Option.bind_eq_some_iff.mp hf
        dsimp only at hf
        refine zEv_call 1 (N := 96) (vs := [.ref 1, .int (xs (Int32.toNatClampNeg (v3 + 1))), .int (xs (Int32.toNatClampNeg (v3 + 2)))]) (v1 := some (.int x904)) (h1 := zHp I905) (L := [some (.ref 0), some (.ref 1), some (.ref 73), some (.int v3)]) (rest := []) (pc := 665) (fun n => rfl) (s_BM_walk hx d (by omega)) rfl rfl ?_
        show zEv _ _ _ (665, [some (.ref 0), some (.ref 1), some (.ref 73), some (.int v3)], [.int x904]) _ _ _
        obtain ⟨hc, hf⟩ := zGd_inv hf
        refine zEv_gd 6 (c := zIn (v3 + 1) L) (f1 := (671, [some (.ref 0), some (.ref 1), some (.ref 73), some (.int v3)], [.int (xs (Int32.toNatClampNeg (v3 + 1))), .ref 73, .int x904])) (h1 := zHp I905) (fun n => rfl) hc ?_
        obtain ⟨hc, hf⟩ := zGd_inv hf
        refine zEv_gd 5 (c := zIn (v3 + 2) L) (f1 := (676, [some (.ref 0), some (.ref 1), some (.ref 73), some (.int v3)], [.int (xs (Int32.toNatClampNeg (v3 + 2))), .int (xs (Int32.toNatClampNeg (v3 + 1))), .ref 73, .int x904])) (h1 := zHp I905) (fun n => rfl) hc ?_
        obtain ⟨⟨x906, I907⟩, hx, hf⟩ := Option.bind_eq_some_iff.mp hf
        dsimp only at hf
        refine zEv_call 1 (N := 165) (vs := [.ref 73, .int (xs (Int32.toNatClampNeg (v3 + 1))), .int (xs (Int32.toNatClampNeg (v3 + 2)))]) (v1 := some (.int x906)) (h1 := zHp I907) (L := [some (.ref 0), some (.ref 1), some (.ref 73), some (.int v3)]) (rest := [.int x904]) (pc := 679) (fun n => rfl) (s_Mo_walk hx d (by omega)) rfl rfl ?_
        show zEv _ _ _ (679, [some (.ref 0), some (.ref 1), some (.ref 73), some (.int v3)], [.int x906, .int x904]) _ _ _
        refine zEv_if 1 (c := x904 = x906) (f1 := (1034, [some (.ref 0), some (.ref 1), some (.ref 73), some (.int v3)], [])) (f2 := (682, [some (.ref 0), some (.ref 1), some (.ref 73), some (.int v3)], [])) (h1 := zHp I907) (fun n => rfl) (fun hc => ?_) (fun hc => ?_)
        · rw [if_pos hc] at hf
          refine zEv_go 2 (f1 := (18, [some (.ref 0), some (.ref 1), some (.ref 73), some (.int (v3 + 5))], [])) (h1 := zHp I907) (fun n => rfl) ?_
          refine zEv_weak (L := [some (.ref 0), some (.ref 1), some (.ref 73), some (.int (v3 + 5))]) (by exact ⟨rfl, ⟨rfl, ⟨rfl, ⟨rfl, trivial⟩⟩⟩⟩) ?_
          exact ih hf
        · rw [if_neg hc] at hf
          cases hf
          exact zEv_ret 2 (fun n => rfl)
      rw [if_neg hc17] at hf
      by_cases hc18 : ((xs (Int32.toNatClampNeg v3)) &&& 31) = 18
      · rw [if_pos hc18] at hf
        refine zEv_tsk (off := 652) (t := 684) 18 (by rfl) hc18 (by decide) rfl rfl ?_
        obtain ⟨hc, hf⟩ := zGd_inv hf
        refine zEv_gd 6 (c := zIn (v3 + 1) L) (f1 := (690, [some (.ref 0), some (.ref 1), some (.ref 73), some (.int v3)], [.int (xs (Int32.toNatClampNeg (v3 + 1))), .ref 1])) (h1 := zHp I) (fun n => rfl) hc ?_
        obtain ⟨hc, hf⟩ := zGd_inv hf
        refine zEv_gd 5 (c := zIn (v3 + 2) L) (f1 := (695, [some (.ref 0), some (.ref 1), some (.ref 73), some (.int v3)], [.int (xs (Int32.toNatClampNeg (v3 + 2))), .int (xs (Int32.toNatClampNeg (v3 + 1))), .ref 1])) (h1 := zHp I) (fun n => rfl) hc ?_
        obtain ⟨⟨x908, I909⟩, hx, hf⟩ := Option.bind_eq_some_iff.mp hf
        dsimp only at hf
        refine zEv_call 1 (N := 97) (vs := [.ref 1, .int (xs (Int32.toNatClampNeg (v3 + 1))), .int (xs (Int32.toNatClampNeg (v3 + 2)))]) (v1 := some (.int x908)) (h1 := zHp I909) (L := [some (.ref 0), some (.ref 1), some (.ref 73), some (.int v3)]) (rest := []) (pc := 698) (fun n => rfl) (s_BM_right hx d (by omega)) rfl rfl ?_
        show zEv _ _ _ (698, [some (.ref 0), some (.ref 1), some (.ref 73), some (.int v3)], [.int x908]) _ _ _
        obtain ⟨hc, hf⟩ := zGd_inv hf
        refine zEv_gd 6 (c := zIn (v3 + 1) L) (f1 := (704, [some (.ref 0), some (.ref 1), some (.ref 73), some (.int v3)], [.int (xs (Int32.toNatClampNeg (v3 + 1))), .ref 73, .int x908])) (h1 := zHp I909) (fun n => rfl) hc ?_
        obtain ⟨hc, hf⟩ := zGd_inv hf
        refine zEv_gd 5 (c := zIn (v3 + 2) L) (f1 := (709, [some (.ref 0), some (.ref 1), some (.ref 73), some (.int v3)], [.int (xs (Int32.toNatClampNeg (v3 + 2))), .int (xs (Int32.toNatClampNeg (v3 + 1))), .ref 73, .int x908])) (h1 := zHp I909) (fun n => rfl) hc ?_
        obtain ⟨⟨x910, I911⟩, hx, hf⟩ := Option.bind_eq_some_iff.mp hf
        dsimp only at hf
        refine zEv_call 1 (N := 169) (vs := [.ref 73, .int (xs (Int32.toNatClampNeg (v3 + 1))), .int (xs (Int32.toNatClampNeg (v3 + 2)))]) (v1 := some (.int x910)) (h1 := zHp I911) (L := [some (.ref 0), some (.ref 1), some (.ref 73), some (.int v3)]) (rest := [.int x908]) (pc := 712) (fun n => rfl) (s_Mo_right hx d (by omega)) rfl rfl ?_
        show zEv _ _ _ (712, [some (.ref 0), some (.ref 1), some (.ref 73), some (.int v3)], [.int x910, .int x908]) _ _ _
        refine zEv_if 1 (c := x908 = x910) (f1 := (1034, [some (.ref 0), some (.ref 1), some (.ref 73), some (.int v3)], [])) (f2 := (715, [some (.ref 0), some (.ref 1), some (.ref 73), some (.int v3)], [])) (h1 := zHp I911) (fun n => rfl) (fun hc => ?_) (fun hc => ?_)
        · rw [if_pos hc] at hf
          refine zEv_go 2 (f1 := (18, [some (.ref 0), some (.ref 1), some (.ref 73), some (.int (v3 + 5))], [])) (h1 := zHp I911) (fun n => rfl) ?_
          refine zEv_weak (L := [some (.ref 0), some (.ref 1), some (.ref 73), some (.int (v3 + 5))]) (by exact ⟨rfl, ⟨rfl, ⟨rfl, ⟨rfl, trivial⟩⟩⟩⟩) ?_
          exact ih hf
        · rw [if_neg hc] at hf
          cases hf
          exact zEv_ret 2 (fun n => rfl)
      rw [if_neg hc18] at hf
      by_cases hc19 : ((xs (Int32.toNatClampNeg v3)) &&& 31) = 19
      · rw [if_pos hc19] at hf
        refine zEv_tsk (off := 685) (t := 717) 19 (by rfl) hc19 (by decide) rfl rfl ?_
        obtain ⟨hc, hf⟩ := zGd_inv hf
        refine zEv_gd 6 (c := zIn (v3 + 1) L) (f1 := (723, [some (.ref 0), some (.ref 1), some (.ref 73), some (.int v3)], [.int (xs (Int32.toNatClampNeg (v3 + 1))), .ref 1])) (h1 := zHp I) (fun n => rfl) hc ?_
        obtain ⟨hc, hf⟩ := zGd_inv hf
        refine zEv_gd 5 (c := zIn (v3 + 2) L) (f1 := (728, [some (.ref 0), some (.ref 1), some (.ref 73), some (.int v3)], [.int (xs (Int32.toNatClampNeg (v3 + 2))), .int (xs (Int32.toNatClampNeg (v3 + 1))), .ref 1])) (h1 := zHp I) (fun n => rfl) hc ?_
        obtain ⟨hc, hf⟩ := zGd_inv hf
        refine zEv_gd 5 (c := zIn (v3 + 3) L) (f1 := (733, [some (.ref 0), some (.ref 1), some (.ref 73), some (.int v3)], [.int (xs (Int32.toNatClampNeg (v3 + 3))), .int (xs (Int32.toNatClampNeg (v3 + 2))), .int (xs (Int32.toNatClampNeg (v3 + 1))), .ref 1])) (h1 := zHp I) (fun n => rfl) hc ?_
        obtain ⟨x913, hm_m912, hf⟩ := Option.bind_eq_some_iff.mp hf
        have hJ_m912 : zEv (some (L, xs)) (d + 1) 199 (741, [some (.ref 0), some (.ref 1), some (.ref 73), some (.int v3)], [.int x913, .int (xs (Int32.toNatClampNeg (v3 + 2))), .int (xs (Int32.toNatClampNeg (v3 + 1))), .ref 1]) (zHp I) (some (.int r)) (zHp I') := by
          obtain ⟨⟨x914, I915⟩, hx, hf⟩ := Option.bind_eq_some_iff.mp hf
          dsimp only at hf
          refine zEv_call 1 (N := 98) (vs := [.ref 1, .int (xs (Int32.toNatClampNeg (v3 + 1))), .int (xs (Int32.toNatClampNeg (v3 + 2))), .int x913]) (v1 := some (.int x914)) (h1 := zHp I915) (L := [some (.ref 0), some (.ref 1), some (.ref 73), some (.int v3)]) (rest := []) (pc := 744) (fun n => rfl) (s_BM_seen hx d (by omega)) rfl rfl ?_
          show zEv _ _ _ (744, [some (.ref 0), some (.ref 1), some (.ref 73), some (.int v3)], [.int x914]) _ _ _
          obtain ⟨hc, hf⟩ := zGd_inv hf
          refine zEv_gd 6 (c := zIn (v3 + 1) L) (f1 := (750, [some (.ref 0), some (.ref 1), some (.ref 73), some (.int v3)], [.int (xs (Int32.toNatClampNeg (v3 + 1))), .ref 73, .int x914])) (h1 := zHp I915) (fun n => rfl) hc ?_
          obtain ⟨hc, hf⟩ := zGd_inv hf
          refine zEv_gd 5 (c := zIn (v3 + 2) L) (f1 := (755, [some (.ref 0), some (.ref 1), some (.ref 73), some (.int v3)], [.int (xs (Int32.toNatClampNeg (v3 + 2))), .int (xs (Int32.toNatClampNeg (v3 + 1))), .ref 73, .int x914])) (h1 := zHp I915) (fun n => rfl) hc ?_
          obtain ⟨hc, hf⟩ := zGd_inv hf
          refine zEv_gd 5 (c := zIn (v3 + 3) L) (f1 := (760, [some (.ref 0), some (.ref 1), some (.ref 73), some (.int v3)], [.int (xs (Int32.toNatClampNeg (v3 + 3))), .int (xs (Int32.toNatClampNeg (v3 + 2))), .int (xs (Int32.toNatClampNeg (v3 + 1))), .ref 73, .int x914])) (h1 := zHp I915) (fun n => rfl) hc ?_
          obtain ⟨x917, hm_m916, hf⟩ := Option.bind_eq_some_iff.mp hf
          have hJ_m916 : zEv (some (L, xs)) (d + 1) 199 (768, [some (.ref 0), some (.ref 1), some (.ref 73), some (.int v3)], [.int x917, .int (xs (Int32.toNatClampNeg (v3 + 2))), .int (xs (Int32.toNatClampNeg (v3 + 1))), .ref 73, .int x914]) (zHp I915) (some (.int r)) (zHp I') := by
            obtain ⟨⟨x918, I919⟩, hx, hf⟩ := Option.bind_eq_some_iff.mp hf
            dsimp only at hf
            refine zEv_call 1 (N := 170) (vs := [.ref 73, .int (xs (Int32.toNatClampNeg (v3 + 1))), .int (xs (Int32.toNatClampNeg (v3 + 2))), .int x917]) (v1 := some (.int x918)) (h1 := zHp I919) (L := [some (.ref 0), some (.ref 1), some (.ref 73), some (.int v3)]) (rest := [.int x914]) (pc := 771) (fun n => rfl) (s_Mo_seen hx d (by omega)) rfl rfl ?_
            show zEv _ _ _ (771, [some (.ref 0), some (.ref 1), some (.ref 73), some (.int v3)], [.int x918, .int x914]) _ _ _
            refine zEv_if 1 (c := x914 = x918) (f1 := (1034, [some (.ref 0), some (.ref 1), some (.ref 73), some (.int v3)], [])) (f2 := (774, [some (.ref 0), some (.ref 1), some (.ref 73), some (.int v3)], [])) (h1 := zHp I919) (fun n => rfl) (fun hc => ?_) (fun hc => ?_)
            · rw [if_pos hc] at hf
              refine zEv_go 2 (f1 := (18, [some (.ref 0), some (.ref 1), some (.ref 73), some (.int (v3 + 5))], [])) (h1 := zHp I919) (fun n => rfl) ?_
              refine zEv_weak (L := [some (.ref 0), some (.ref 1), some (.ref 73), some (.int (v3 + 5))]) (by exact ⟨rfl, ⟨rfl, ⟨rfl, ⟨rfl, trivial⟩⟩⟩⟩) ?_
              exact ih hf
            · rw [if_neg hc] at hf
              cases hf
              exact zEv_ret 2 (fun n => rfl)
          clear hf
          refine zEv_if 1 (c := (xs (Int32.toNatClampNeg (v3 + 3))) = 0) (f1 := (767, [some (.ref 0), some (.ref 1), some (.ref 73), some (.int v3)], [.int (xs (Int32.toNatClampNeg (v3 + 2))), .int (xs (Int32.toNatClampNeg (v3 + 1))), .ref 73, .int x914])) (f2 := (763, [some (.ref 0), some (.ref 1), some (.ref 73), some (.int v3)], [.int (xs (Int32.toNatClampNeg (v3 + 2))), .int (xs (Int32.toNatClampNeg (v3 + 1))), .ref 73, .int x914])) (h1 := zHp I915) (fun n => rfl) (fun hc => ?_) (fun hc => ?_)
          · rw [if_pos hc] at hm_m916
            obtain rfl := Option.some.inj hm_m916
            refine zEv_go 1 (f1 := (768, [some (.ref 0), some (.ref 1), some (.ref 73), some (.int v3)], [.int 0, .int (xs (Int32.toNatClampNeg (v3 + 2))), .int (xs (Int32.toNatClampNeg (v3 + 1))), .ref 73, .int x914])) (h1 := zHp I915) (fun n => rfl) ?_
            exact zEv_weak (L := [some (.ref 0), some (.ref 1), some (.ref 73), some (.int v3)]) (by exact ⟨rfl, ⟨rfl, ⟨rfl, ⟨rfl, trivial⟩⟩⟩⟩) hJ_m916
          · rw [if_neg hc] at hm_m916
            obtain rfl := Option.some.inj hm_m916
            refine zEv_go 2 (f1 := (768, [some (.ref 0), some (.ref 1), some (.ref 73), some (.int v3)], [.int 1, .int (xs (Int32.toNatClampNeg (v3 + 2))), .int (xs (Int32.toNatClampNeg (v3 + 1))), .ref 73, .int x914])) (h1 := zHp I915) (fun n => rfl) ?_
            exact zEv_weak (L := [some (.ref 0), some (.ref 1), some (.ref 73), some (.int v3)]) (by exact ⟨rfl, ⟨rfl, ⟨rfl, ⟨rfl, trivial⟩⟩⟩⟩) hJ_m916
        clear hf
        refine zEv_if 1 (c := (xs (Int32.toNatClampNeg (v3 + 3))) = 0) (f1 := (740, [some (.ref 0), some (.ref 1), some (.ref 73), some (.int v3)], [.int (xs (Int32.toNatClampNeg (v3 + 2))), .int (xs (Int32.toNatClampNeg (v3 + 1))), .ref 1])) (f2 := (736, [some (.ref 0), some (.ref 1), some (.ref 73), some (.int v3)], [.int (xs (Int32.toNatClampNeg (v3 + 2))), .int (xs (Int32.toNatClampNeg (v3 + 1))), .ref 1])) (h1 := zHp I) (fun n => rfl) (fun hc => ?_) (fun hc => ?_)
        · rw [if_pos hc] at hm_m912
          obtain rfl := Option.some.inj hm_m912
          refine zEv_go 1 (f1 := (741, [some (.ref 0), some (.ref 1), some (.ref 73), some (.int v3)], [.int 0, .int (xs (Int32.toNatClampNeg (v3 + 2))), .int (xs (Int32.toNatClampNeg (v3 + 1))), .ref 1])) (h1 := zHp I) (fun n => rfl) ?_
          exact zEv_weak (L := [some (.ref 0), some (.ref 1), some (.ref 73), some (.int v3)]) (by exact ⟨rfl, ⟨rfl, ⟨rfl, ⟨rfl, trivial⟩⟩⟩⟩) hJ_m912
        · rw [if_neg hc] at hm_m912
          obtain rfl := Option.some.inj hm_m912
          refine zEv_go 2 (f1 := (741, [some (.ref 0), some (.ref 1), some (.ref 73), some (.int v3)], [.int 1, .int (xs (Int32.toNatClampNeg (v3 + 2))), .int (xs (Int32.toNatClampNeg (v3 + 1))), .ref 1])) (h1 := zHp I) (fun n => rfl) ?_
          exact zEv_weak (L := [some (.ref 0), some (.ref 1), some (.ref 73), some (.int v3)]) (by exact ⟨rfl, ⟨rfl, ⟨rfl, ⟨rfl, trivial⟩⟩⟩⟩) hJ_m912
      rw [if_neg hc19] at hf
      by_cases hc20 : ((xs (Int32.toNatClampNeg v3)) &&& 31) = 20
      · rw [if_pos hc20] at hf
        refine zEv_tsk (off := 744) (t := 776) 20 (by rfl) hc20 (by decide) rfl rfl ?_
        obtain ⟨⟨x920, I921⟩, hx, hf⟩ := Option.bind_eq_some_iff.mp hf
        dsimp only at hf
        refine zEv_call 2 (N := 99) (vs := [.ref 1]) (v1 := some (.int x920)) (h1 := zHp I921) (L := [some (.ref 0), some (.ref 1), some (.ref 73), some (.int v3)]) (rest := []) (pc := 780) (fun n => rfl) (s_BM_clear hx d (by omega)) rfl rfl ?_
        show zEv _ _ _ (780, [some (.ref 0), some (.ref 1), some (.ref 73), some (.int v3)], [.int x920]) _ _ _
        obtain ⟨⟨x922, I923⟩, hx, hf⟩ := Option.bind_eq_some_iff.mp hf
        dsimp only at hf
        refine zEv_call 2 (N := 171) (vs := [.ref 73]) (v1 := some (.int x922)) (h1 := zHp I923) (L := [some (.ref 0), some (.ref 1), some (.ref 73), some (.int v3)]) (rest := [.int x920]) (pc := 784) (fun n => rfl) (s_Mo_clear hx d (by omega)) rfl rfl ?_
        show zEv _ _ _ (784, [some (.ref 0), some (.ref 1), some (.ref 73), some (.int v3)], [.int x922, .int x920]) _ _ _
        refine zEv_if 1 (c := x920 = x922) (f1 := (1034, [some (.ref 0), some (.ref 1), some (.ref 73), some (.int v3)], [])) (f2 := (787, [some (.ref 0), some (.ref 1), some (.ref 73), some (.int v3)], [])) (h1 := zHp I923) (fun n => rfl) (fun hc => ?_) (fun hc => ?_)
        · rw [if_pos hc] at hf
          refine zEv_go 2 (f1 := (18, [some (.ref 0), some (.ref 1), some (.ref 73), some (.int (v3 + 5))], [])) (h1 := zHp I923) (fun n => rfl) ?_
          refine zEv_weak (L := [some (.ref 0), some (.ref 1), some (.ref 73), some (.int (v3 + 5))]) (by exact ⟨rfl, ⟨rfl, ⟨rfl, ⟨rfl, trivial⟩⟩⟩⟩) ?_
          exact ih hf
        · rw [if_neg hc] at hf
          cases hf
          exact zEv_ret 2 (fun n => rfl)
      rw [if_neg hc20] at hf
      by_cases hc21 : ((xs (Int32.toNatClampNeg v3)) &&& 31) = 21
      · rw [if_pos hc21] at hf
        refine zEv_tsk (off := 757) (t := 789) 21 (by rfl) hc21 (by decide) rfl rfl ?_
        obtain ⟨hc, hf⟩ := zGd_inv hf
        refine zEv_gd 6 (c := zIn (v3 + 1) L) (f1 := (795, [some (.ref 0), some (.ref 1), some (.ref 73), some (.int v3)], [.int (xs (Int32.toNatClampNeg (v3 + 1))), .ref 1])) (h1 := zHp I) (fun n => rfl) hc ?_
        obtain ⟨⟨x924, I925⟩, hx, hf⟩ := Option.bind_eq_some_iff.mp hf
        dsimp only at hf
        refine zEv_call 1 (N := 100) (vs := [.ref 1, .int (xs (Int32.toNatClampNeg (v3 + 1)))]) (v1 := some (.int x924)) (h1 := zHp I925) (L := [some (.ref 0), some (.ref 1), some (.ref 73), some (.int v3)]) (rest := []) (pc := 798) (fun n => rfl) (s_BM_fits hx d (by omega)) rfl rfl ?_
        show zEv _ _ _ (798, [some (.ref 0), some (.ref 1), some (.ref 73), some (.int v3)], [.int x924]) _ _ _
        obtain ⟨hc, hf⟩ := zGd_inv hf
        refine zEv_gd 6 (c := zIn (v3 + 1) L) (f1 := (804, [some (.ref 0), some (.ref 1), some (.ref 73), some (.int v3)], [.int (xs (Int32.toNatClampNeg (v3 + 1))), .ref 73, .int x924])) (h1 := zHp I925) (fun n => rfl) hc ?_
        obtain ⟨x926, hx, hf⟩ := Option.bind_eq_some_iff.mp hf
        refine zEv_call 1 (N := 174) (vs := [.ref 73, .int (xs (Int32.toNatClampNeg (v3 + 1)))]) (v1 := some (.int x926)) (h1 := zHp I925) (L := [some (.ref 0), some (.ref 1), some (.ref 73), some (.int v3)]) (rest := [.int x924]) (pc := 807) (fun n => rfl) (s_Mo_fits hx d (by omega)) rfl rfl ?_
        show zEv _ _ _ (807, [some (.ref 0), some (.ref 1), some (.ref 73), some (.int v3)], [.int x926, .int x924]) _ _ _
        refine zEv_if 1 (c := x924 = x926) (f1 := (1034, [some (.ref 0), some (.ref 1), some (.ref 73), some (.int v3)], [])) (f2 := (810, [some (.ref 0), some (.ref 1), some (.ref 73), some (.int v3)], [])) (h1 := zHp I925) (fun n => rfl) (fun hc => ?_) (fun hc => ?_)
        · rw [if_pos hc] at hf
          refine zEv_go 2 (f1 := (18, [some (.ref 0), some (.ref 1), some (.ref 73), some (.int (v3 + 5))], [])) (h1 := zHp I925) (fun n => rfl) ?_
          refine zEv_weak (L := [some (.ref 0), some (.ref 1), some (.ref 73), some (.int (v3 + 5))]) (by exact ⟨rfl, ⟨rfl, ⟨rfl, ⟨rfl, trivial⟩⟩⟩⟩) ?_
          exact ih hf
        · rw [if_neg hc] at hf
          cases hf
          exact zEv_ret 2 (fun n => rfl)
      rw [if_neg hc21] at hf
      by_cases hc22 : ((xs (Int32.toNatClampNeg v3)) &&& 31) = 22
      · rw [if_pos hc22] at hf
        refine zEv_tsk (off := 780) (t := 812) 22 (by rfl) hc22 (by decide) rfl rfl ?_
        obtain ⟨hc, hf⟩ := zGd_inv hf
        refine zEv_gd 6 (c := zIn (v3 + 1) L) (f1 := (818, [some (.ref 0), some (.ref 1), some (.ref 73), some (.int v3)], [.int (xs (Int32.toNatClampNeg (v3 + 1))), .ref 1])) (h1 := zHp I) (fun n => rfl) hc ?_
        obtain ⟨⟨x927, I928⟩, hx, hf⟩ := Option.bind_eq_some_iff.mp hf
        dsimp only at hf
        refine zEv_call 1 (N := 101) (vs := [.ref 1, .int (xs (Int32.toNatClampNeg (v3 + 1)))]) (v1 := some (.int x927)) (h1 := zHp I928) (L := [some (.ref 0), some (.ref 1), some (.ref 73), some (.int v3)]) (rest := []) (pc := 821) (fun n => rfl) (s_BM_ask hx d (by omega)) rfl rfl ?_
        show zEv _ _ _ (821, [some (.ref 0), some (.ref 1), some (.ref 73), some (.int v3)], [.int x927]) _ _ _
        obtain ⟨hc, hf⟩ := zGd_inv hf
        refine zEv_gd 6 (c := zIn (v3 + 1) L) (f1 := (827, [some (.ref 0), some (.ref 1), some (.ref 73), some (.int v3)], [.int (xs (Int32.toNatClampNeg (v3 + 1))), .ref 73, .int x927])) (h1 := zHp I928) (fun n => rfl) hc ?_
        obtain ⟨⟨x929, I930⟩, hx, hf⟩ := Option.bind_eq_some_iff.mp hf
        dsimp only at hf
        refine zEv_call 1 (N := 176) (vs := [.ref 73, .int (xs (Int32.toNatClampNeg (v3 + 1)))]) (v1 := some (.int x929)) (h1 := zHp I930) (L := [some (.ref 0), some (.ref 1), some (.ref 73), some (.int v3)]) (rest := [.int x927]) (pc := 830) (fun n => rfl) (s_Mo_ask hx d (by omega)) rfl rfl ?_
        show zEv _ _ _ (830, [some (.ref 0), some (.ref 1), some (.ref 73), some (.int v3)], [.int x929, .int x927]) _ _ _
        refine zEv_if 1 (c := x927 = x929) (f1 := (1034, [some (.ref 0), some (.ref 1), some (.ref 73), some (.int v3)], [])) (f2 := (833, [some (.ref 0), some (.ref 1), some (.ref 73), some (.int v3)], [])) (h1 := zHp I930) (fun n => rfl) (fun hc => ?_) (fun hc => ?_)
        · rw [if_pos hc] at hf
          refine zEv_go 2 (f1 := (18, [some (.ref 0), some (.ref 1), some (.ref 73), some (.int (v3 + 5))], [])) (h1 := zHp I930) (fun n => rfl) ?_
          refine zEv_weak (L := [some (.ref 0), some (.ref 1), some (.ref 73), some (.int (v3 + 5))]) (by exact ⟨rfl, ⟨rfl, ⟨rfl, ⟨rfl, trivial⟩⟩⟩⟩) ?_
          exact ih hf
        · rw [if_neg hc] at hf
          cases hf
          exact zEv_ret 2 (fun n => rfl)
      rw [if_neg hc22] at hf
      by_cases hc23 : ((xs (Int32.toNatClampNeg v3)) &&& 31) = 23
      · rw [if_pos hc23] at hf
        refine zEv_tsk (off := 803) (t := 835) 23 (by rfl) hc23 (by decide) rfl rfl ?_
        obtain ⟨hc, hf⟩ := zGd_inv hf
        refine zEv_gd 6 (c := zIn (v3 + 1) L) (f1 := (841, [some (.ref 0), some (.ref 1), some (.ref 73), some (.int v3)], [.int (xs (Int32.toNatClampNeg (v3 + 1))), .ref 1])) (h1 := zHp I) (fun n => rfl) hc ?_
        obtain ⟨hc, hf⟩ := zGd_inv hf
        refine zEv_gd 5 (c := zIn (v3 + 2) L) (f1 := (846, [some (.ref 0), some (.ref 1), some (.ref 73), some (.int v3)], [.int (xs (Int32.toNatClampNeg (v3 + 2))), .int (xs (Int32.toNatClampNeg (v3 + 1))), .ref 1])) (h1 := zHp I) (fun n => rfl) hc ?_
        obtain ⟨x931, hx, hf⟩ := Option.bind_eq_some_iff.mp hf
        refine zEv_call 1 (N := 102) (vs := [.ref 1, .int (xs (Int32.toNatClampNeg (v3 + 1))), .int (xs (Int32.toNatClampNeg (v3 + 2)))]) (v1 := some (.int x931)) (h1 := zHp I) (L := [some (.ref 0), some (.ref 1), some (.ref 73), some (.int v3)]) (rest := []) (pc := 849) (fun n => rfl) (s_BM_take hx d (by omega)) rfl rfl ?_
        show zEv _ _ _ (849, [some (.ref 0), some (.ref 1), some (.ref 73), some (.int v3)], [.int x931]) _ _ _
        obtain ⟨hc, hf⟩ := zGd_inv hf
        refine zEv_gd 6 (c := zIn (v3 + 1) L) (f1 := (855, [some (.ref 0), some (.ref 1), some (.ref 73), some (.int v3)], [.int (xs (Int32.toNatClampNeg (v3 + 1))), .ref 73, .int x931])) (h1 := zHp I) (fun n => rfl) hc ?_
        obtain ⟨hc, hf⟩ := zGd_inv hf
        refine zEv_gd 5 (c := zIn (v3 + 2) L) (f1 := (860, [some (.ref 0), some (.ref 1), some (.ref 73), some (.int v3)], [.int (xs (Int32.toNatClampNeg (v3 + 2))), .int (xs (Int32.toNatClampNeg (v3 + 1))), .ref 73, .int x931])) (h1 := zHp I) (fun n => rfl) hc ?_
        obtain ⟨⟨x932, I933⟩, hx, hf⟩ := Option.bind_eq_some_iff.mp hf
        dsimp only at hf
        refine zEv_call 1 (N := 179) (vs := [.ref 73, .int (xs (Int32.toNatClampNeg (v3 + 1))), .int (xs (Int32.toNatClampNeg (v3 + 2)))]) (v1 := some (.int x932)) (h1 := zHp I933) (L := [some (.ref 0), some (.ref 1), some (.ref 73), some (.int v3)]) (rest := [.int x931]) (pc := 863) (fun n => rfl) (s_Mo_take hx d (by omega)) rfl rfl ?_
        show zEv _ _ _ (863, [some (.ref 0), some (.ref 1), some (.ref 73), some (.int v3)], [.int x932, .int x931]) _ _ _
        refine zEv_if 1 (c := x931 = x932) (f1 := (1034, [some (.ref 0), some (.ref 1), some (.ref 73), some (.int v3)], [])) (f2 := (866, [some (.ref 0), some (.ref 1), some (.ref 73), some (.int v3)], [])) (h1 := zHp I933) (fun n => rfl) (fun hc => ?_) (fun hc => ?_)
        · rw [if_pos hc] at hf
          refine zEv_go 2 (f1 := (18, [some (.ref 0), some (.ref 1), some (.ref 73), some (.int (v3 + 5))], [])) (h1 := zHp I933) (fun n => rfl) ?_
          refine zEv_weak (L := [some (.ref 0), some (.ref 1), some (.ref 73), some (.int (v3 + 5))]) (by exact ⟨rfl, ⟨rfl, ⟨rfl, ⟨rfl, trivial⟩⟩⟩⟩) ?_
          exact ih hf
        · rw [if_neg hc] at hf
          cases hf
          exact zEv_ret 2 (fun n => rfl)
      rw [if_neg hc23] at hf
      by_cases hc24 : ((xs (Int32.toNatClampNeg v3)) &&& 31) = 24
      · rw [if_pos hc24] at hf
        refine zEv_tsk (off := 836) (t := 868) 24 (by rfl) hc24 (by decide) rfl rfl ?_
        obtain ⟨hc, hf⟩ := zGd_inv hf
        refine zEv_gd 6 (c := zIn (v3 + 1) L) (f1 := (874, [some (.ref 0), some (.ref 1), some (.ref 73), some (.int v3)], [.int (xs (Int32.toNatClampNeg (v3 + 1))), .ref 1])) (h1 := zHp I) (fun n => rfl) hc ?_
        obtain ⟨hc, hf⟩ := zGd_inv hf
        refine zEv_gd 5 (c := zIn (v3 + 2) L) (f1 := (879, [some (.ref 0), some (.ref 1), some (.ref 73), some (.int v3)], [.int (xs (Int32.toNatClampNeg (v3 + 2))), .int (xs (Int32.toNatClampNeg (v3 + 1))), .ref 1])) (h1 := zHp I) (fun n => rfl) hc ?_
        obtain ⟨hc, hf⟩ := zGd_inv hf
        refine zEv_gd 5 (c := zIn (v3 + 3) L) (f1 := (884, [some (.ref 0), some (.ref 1), some (.ref 73), some (.int v3)], [.int (xs (Int32.toNatClampNeg (v3 + 3))), .int (xs (Int32.toNatClampNeg (v3 + 2))), .int (xs (Int32.toNatClampNeg (v3 + 1))), .ref 1])) (h1 := zHp I) (fun n => rfl) hc ?_
        obtain ⟨hc, hf⟩ := zGd_inv hf
        refine zEv_gd 5 (c := zIn (v3 + 4) L) (f1 := (889, [some (.ref 0), some (.ref 1), some (.ref 73), some (.int v3)], [.int (xs (Int32.toNatClampNeg (v3 + 4))), .int (xs (Int32.toNatClampNeg (v3 + 3))), .int (xs (Int32.toNatClampNeg (v3 + 2))), .int (xs (Int32.toNatClampNeg (v3 + 1))), .ref 1])) (h1 := zHp I) (fun n => rfl) hc ?_
        obtain ⟨x934, hx, hf⟩ := Option.bind_eq_some_iff.mp hf
        refine zEv_call 1 (N := 103) (vs := [.ref 1, .int (xs (Int32.toNatClampNeg (v3 + 1))), .int (xs (Int32.toNatClampNeg (v3 + 2))), .int (xs (Int32.toNatClampNeg (v3 + 3))), .int (xs (Int32.toNatClampNeg (v3 + 4)))]) (v1 := some (.long x934)) (h1 := zHp I) (L := [some (.ref 0), some (.ref 1), some (.ref 73), some (.int v3)]) (rest := []) (pc := 892) (fun n => rfl) (s_BM_evenings hx d (by omega)) rfl rfl ?_
        show zEv _ _ _ (892, [some (.ref 0), some (.ref 1), some (.ref 73), some (.int v3)], [.long x934]) _ _ _
        obtain ⟨hc, hf⟩ := zGd_inv hf
        refine zEv_gd 6 (c := zIn (v3 + 1) L) (f1 := (898, [some (.ref 0), some (.ref 1), some (.ref 73), some (.int v3)], [.int (xs (Int32.toNatClampNeg (v3 + 1))), .ref 73, .long x934])) (h1 := zHp I) (fun n => rfl) hc ?_
        obtain ⟨hc, hf⟩ := zGd_inv hf
        refine zEv_gd 5 (c := zIn (v3 + 2) L) (f1 := (903, [some (.ref 0), some (.ref 1), some (.ref 73), some (.int v3)], [.int (xs (Int32.toNatClampNeg (v3 + 2))), .int (xs (Int32.toNatClampNeg (v3 + 1))), .ref 73, .long x934])) (h1 := zHp I) (fun n => rfl) hc ?_
        obtain ⟨hc, hf⟩ := zGd_inv hf
        refine zEv_gd 5 (c := zIn (v3 + 3) L) (f1 := (908, [some (.ref 0), some (.ref 1), some (.ref 73), some (.int v3)], [.int (xs (Int32.toNatClampNeg (v3 + 3))), .int (xs (Int32.toNatClampNeg (v3 + 2))), .int (xs (Int32.toNatClampNeg (v3 + 1))), .ref 73, .long x934])) (h1 := zHp I) (fun n => rfl) hc ?_
        obtain ⟨hc, hf⟩ := zGd_inv hf
        refine zEv_gd 5 (c := zIn (v3 + 4) L) (f1 := (913, [some (.ref 0), some (.ref 1), some (.ref 73), some (.int v3)], [.int (xs (Int32.toNatClampNeg (v3 + 4))), .int (xs (Int32.toNatClampNeg (v3 + 3))), .int (xs (Int32.toNatClampNeg (v3 + 2))), .int (xs (Int32.toNatClampNeg (v3 + 1))), .ref 73, .long x934])) (h1 := zHp I) (fun n => rfl) hc ?_
        obtain ⟨x935, hx, hf⟩ := Option.bind_eq_some_iff.mp hf
        refine zEv_call 1 (N := 181) (vs := [.ref 73, .int (xs (Int32.toNatClampNeg (v3 + 1))), .int (xs (Int32.toNatClampNeg (v3 + 2))), .int (xs (Int32.toNatClampNeg (v3 + 3))), .int (xs (Int32.toNatClampNeg (v3 + 4)))]) (v1 := some (.long x935)) (h1 := zHp I) (L := [some (.ref 0), some (.ref 1), some (.ref 73), some (.int v3)]) (rest := [.long x934]) (pc := 916) (fun n => rfl) (s_Mo_evenings hx d (by omega)) rfl rfl ?_
        show zEv _ _ _ (916, [some (.ref 0), some (.ref 1), some (.ref 73), some (.int v3)], [.long x935, .long x934]) _ _ _
        refine zEv_if 2 (c := (lg_cmp x934 x935) = 0) (f1 := (1034, [some (.ref 0), some (.ref 1), some (.ref 73), some (.int v3)], [])) (f2 := (920, [some (.ref 0), some (.ref 1), some (.ref 73), some (.int v3)], [])) (h1 := zHp I) (fun n => rfl) (fun hc => ?_) (fun hc => ?_)
        · rw [if_pos hc] at hf
          refine zEv_go 2 (f1 := (18, [some (.ref 0), some (.ref 1), some (.ref 73), some (.int (v3 + 5))], [])) (h1 := zHp I) (fun n => rfl) ?_
          refine zEv_weak (L := [some (.ref 0), some (.ref 1), some (.ref 73), some (.int (v3 + 5))]) (by exact ⟨rfl, ⟨rfl, ⟨rfl, ⟨rfl, trivial⟩⟩⟩⟩) ?_
          exact ih hf
        · rw [if_neg hc] at hf
          cases hf
          exact zEv_ret 2 (fun n => rfl)
      rw [if_neg hc24] at hf
      by_cases hc25 : ((xs (Int32.toNatClampNeg v3)) &&& 31) = 25
      · rw [if_pos hc25] at hf
        refine zEv_tsk (off := 890) (t := 922) 25 (by rfl) hc25 (by decide) rfl rfl ?_
        obtain ⟨hc, hf⟩ := zGd_inv hf
        refine zEv_gd 6 (c := zIn (v3 + 1) L) (f1 := (928, [some (.ref 0), some (.ref 1), some (.ref 73), some (.int v3)], [.int (xs (Int32.toNatClampNeg (v3 + 1))), .ref 1])) (h1 := zHp I) (fun n => rfl) hc ?_
        obtain ⟨hc, hf⟩ := zGd_inv hf
        refine zEv_gd 5 (c := zIn (v3 + 2) L) (f1 := (933, [some (.ref 0), some (.ref 1), some (.ref 73), some (.int v3)], [.int (xs (Int32.toNatClampNeg (v3 + 2))), .int (xs (Int32.toNatClampNeg (v3 + 1))), .ref 1])) (h1 := zHp I) (fun n => rfl) hc ?_
        obtain ⟨hc, hf⟩ := zGd_inv hf
        refine zEv_gd 5 (c := zIn (v3 + 3) L) (f1 := (938, [some (.ref 0), some (.ref 1), some (.ref 73), some (.int v3)], [.int (xs (Int32.toNatClampNeg (v3 + 3))), .int (xs (Int32.toNatClampNeg (v3 + 2))), .int (xs (Int32.toNatClampNeg (v3 + 1))), .ref 1])) (h1 := zHp I) (fun n => rfl) hc ?_
        obtain ⟨⟨x936, I937⟩, hx, hf⟩ := Option.bind_eq_some_iff.mp hf
        dsimp only at hf
        refine zEv_call 1 (N := 104) (vs := [.ref 1, .int (xs (Int32.toNatClampNeg (v3 + 1))), .int (xs (Int32.toNatClampNeg (v3 + 2))), .int (xs (Int32.toNatClampNeg (v3 + 3)))]) (v1 := some (.int x936)) (h1 := zHp I937) (L := [some (.ref 0), some (.ref 1), some (.ref 73), some (.int v3)]) (rest := []) (pc := 941) (fun n => rfl) (s_BM_season hx d (by omega)) rfl rfl ?_
        show zEv _ _ _ (941, [some (.ref 0), some (.ref 1), some (.ref 73), some (.int v3)], [.int x936]) _ _ _
        obtain ⟨hc, hf⟩ := zGd_inv hf
        refine zEv_gd 6 (c := zIn (v3 + 1) L) (f1 := (947, [some (.ref 0), some (.ref 1), some (.ref 73), some (.int v3)], [.int (xs (Int32.toNatClampNeg (v3 + 1))), .ref 73, .int x936])) (h1 := zHp I937) (fun n => rfl) hc ?_
        obtain ⟨hc, hf⟩ := zGd_inv hf
        refine zEv_gd 5 (c := zIn (v3 + 2) L) (f1 := (952, [some (.ref 0), some (.ref 1), some (.ref 73), some (.int v3)], [.int (xs (Int32.toNatClampNeg (v3 + 2))), .int (xs (Int32.toNatClampNeg (v3 + 1))), .ref 73, .int x936])) (h1 := zHp I937) (fun n => rfl) hc ?_
        obtain ⟨hc, hf⟩ := zGd_inv hf
        refine zEv_gd 5 (c := zIn (v3 + 3) L) (f1 := (957, [some (.ref 0), some (.ref 1), some (.ref 73), some (.int v3)], [.int (xs (Int32.toNatClampNeg (v3 + 3))), .int (xs (Int32.toNatClampNeg (v3 + 2))), .int (xs (Int32.toNatClampNeg (v3 + 1))), .ref 73, .int x936])) (h1 := zHp I937) (fun n => rfl) hc ?_
        obtain ⟨⟨x938, I939⟩, hx, hf⟩ := Option.bind_eq_some_iff.mp hf
        dsimp only at hf
        refine zEv_call 1 (N := 185) (vs := [.ref 73, .int (xs (Int32.toNatClampNeg (v3 + 1))), .int (xs (Int32.toNatClampNeg (v3 + 2))), .int (xs (Int32.toNatClampNeg (v3 + 3)))]) (v1 := some (.int x938)) (h1 := zHp I939) (L := [some (.ref 0), some (.ref 1), some (.ref 73), some (.int v3)]) (rest := [.int x936]) (pc := 960) (fun n => rfl) (s_Mo_season hx d (by omega)) rfl rfl ?_
        show zEv _ _ _ (960, [some (.ref 0), some (.ref 1), some (.ref 73), some (.int v3)], [.int x938, .int x936]) _ _ _
        refine zEv_if 1 (c := x936 = x938) (f1 := (1034, [some (.ref 0), some (.ref 1), some (.ref 73), some (.int v3)], [])) (f2 := (963, [some (.ref 0), some (.ref 1), some (.ref 73), some (.int v3)], [])) (h1 := zHp I939) (fun n => rfl) (fun hc => ?_) (fun hc => ?_)
        · rw [if_pos hc] at hf
          refine zEv_go 2 (f1 := (18, [some (.ref 0), some (.ref 1), some (.ref 73), some (.int (v3 + 5))], [])) (h1 := zHp I939) (fun n => rfl) ?_
          refine zEv_weak (L := [some (.ref 0), some (.ref 1), some (.ref 73), some (.int (v3 + 5))]) (by exact ⟨rfl, ⟨rfl, ⟨rfl, ⟨rfl, trivial⟩⟩⟩⟩) ?_
          exact ih hf
        · rw [if_neg hc] at hf
          cases hf
          exact zEv_ret 2 (fun n => rfl)
      rw [if_neg hc25] at hf
      by_cases hc26 : ((xs (Int32.toNatClampNeg v3)) &&& 31) = 26
      · rw [if_pos hc26] at hf
        refine zEv_tsk (off := 933) (t := 965) 26 (by rfl) hc26 (by decide) rfl rfl ?_
        obtain ⟨hc, hf⟩ := zGd_inv hf
        refine zEv_gd 6 (c := zIn (v3 + 1) L) (f1 := (971, [some (.ref 0), some (.ref 1), some (.ref 73), some (.int v3)], [.int (xs (Int32.toNatClampNeg (v3 + 1))), .ref 1])) (h1 := zHp I) (fun n => rfl) hc ?_
        obtain ⟨⟨x940, I941⟩, hx, hf⟩ := Option.bind_eq_some_iff.mp hf
        dsimp only at hf
        refine zEv_call 1 (N := 105) (vs := [.ref 1, .int (xs (Int32.toNatClampNeg (v3 + 1)))]) (v1 := some (.int x940)) (h1 := zHp I941) (L := [some (.ref 0), some (.ref 1), some (.ref 73), some (.int v3)]) (rest := []) (pc := 974) (fun n => rfl) (s_BM_image hx d (by omega)) rfl rfl ?_
        show zEv _ _ _ (974, [some (.ref 0), some (.ref 1), some (.ref 73), some (.int v3)], [.int x940]) _ _ _
        obtain ⟨hc, hf⟩ := zGd_inv hf
        refine zEv_gd 6 (c := zIn (v3 + 1) L) (f1 := (980, [some (.ref 0), some (.ref 1), some (.ref 73), some (.int v3)], [.int (xs (Int32.toNatClampNeg (v3 + 1))), .ref 73, .int x940])) (h1 := zHp I941) (fun n => rfl) hc ?_
        obtain ⟨⟨x942, I943⟩, hx, hf⟩ := Option.bind_eq_some_iff.mp hf
        dsimp only at hf
        refine zEv_call 1 (N := 189) (vs := [.ref 73, .int (xs (Int32.toNatClampNeg (v3 + 1)))]) (v1 := some (.int x942)) (h1 := zHp I943) (L := [some (.ref 0), some (.ref 1), some (.ref 73), some (.int v3)]) (rest := [.int x940]) (pc := 983) (fun n => rfl) (s_Mo_image hx d (by omega)) rfl rfl ?_
        show zEv _ _ _ (983, [some (.ref 0), some (.ref 1), some (.ref 73), some (.int v3)], [.int x942, .int x940]) _ _ _
        refine zEv_if 1 (c := x940 = x942) (f1 := (1034, [some (.ref 0), some (.ref 1), some (.ref 73), some (.int v3)], [])) (f2 := (986, [some (.ref 0), some (.ref 1), some (.ref 73), some (.int v3)], [])) (h1 := zHp I943) (fun n => rfl) (fun hc => ?_) (fun hc => ?_)
        · rw [if_pos hc] at hf
          refine zEv_go 2 (f1 := (18, [some (.ref 0), some (.ref 1), some (.ref 73), some (.int (v3 + 5))], [])) (h1 := zHp I943) (fun n => rfl) ?_
          refine zEv_weak (L := [some (.ref 0), some (.ref 1), some (.ref 73), some (.int (v3 + 5))]) (by exact ⟨rfl, ⟨rfl, ⟨rfl, ⟨rfl, trivial⟩⟩⟩⟩) ?_
          exact ih hf
        · rw [if_neg hc] at hf
          cases hf
          exact zEv_ret 2 (fun n => rfl)
      rw [if_neg hc26] at hf
      by_cases hc27 : ((xs (Int32.toNatClampNeg v3)) &&& 31) = 27
      · rw [if_pos hc27] at hf
        refine zEv_tsk (off := 956) (t := 988) 27 (by rfl) hc27 (by decide) rfl rfl ?_
        obtain ⟨hc, hf⟩ := zGd_inv hf
        refine zEv_gd 6 (c := zIn (v3 + 1) L) (f1 := (994, [some (.ref 0), some (.ref 1), some (.ref 73), some (.int v3)], [.int (xs (Int32.toNatClampNeg (v3 + 1))), .ref 1])) (h1 := zHp I) (fun n => rfl) hc ?_
        obtain ⟨⟨x944, I945⟩, hx, hf⟩ := Option.bind_eq_some_iff.mp hf
        dsimp only at hf
        refine zEv_call 1 (N := 106) (vs := [.ref 1, .int (xs (Int32.toNatClampNeg (v3 + 1)))]) (v1 := some (.int x944)) (h1 := zHp I945) (L := [some (.ref 0), some (.ref 1), some (.ref 73), some (.int v3)]) (rest := []) (pc := 997) (fun n => rfl) (s_BM_restore hx d (by omega)) rfl rfl ?_
        show zEv _ _ _ (997, [some (.ref 0), some (.ref 1), some (.ref 73), some (.int v3)], [.int x944]) _ _ _
        obtain ⟨hc, hf⟩ := zGd_inv hf
        refine zEv_gd 6 (c := zIn (v3 + 1) L) (f1 := (1003, [some (.ref 0), some (.ref 1), some (.ref 73), some (.int v3)], [.int (xs (Int32.toNatClampNeg (v3 + 1))), .ref 73, .int x944])) (h1 := zHp I945) (fun n => rfl) hc ?_
        obtain ⟨⟨x946, I947⟩, hx, hf⟩ := Option.bind_eq_some_iff.mp hf
        dsimp only at hf
        refine zEv_call 1 (N := 190) (vs := [.ref 73, .int (xs (Int32.toNatClampNeg (v3 + 1)))]) (v1 := some (.int x946)) (h1 := zHp I947) (L := [some (.ref 0), some (.ref 1), some (.ref 73), some (.int v3)]) (rest := [.int x944]) (pc := 1006) (fun n => rfl) (s_Mo_restore hx d (by omega)) rfl rfl ?_
        show zEv _ _ _ (1006, [some (.ref 0), some (.ref 1), some (.ref 73), some (.int v3)], [.int x946, .int x944]) _ _ _
        refine zEv_if 1 (c := x944 = x946) (f1 := (1034, [some (.ref 0), some (.ref 1), some (.ref 73), some (.int v3)], [])) (f2 := (1009, [some (.ref 0), some (.ref 1), some (.ref 73), some (.int v3)], [])) (h1 := zHp I947) (fun n => rfl) (fun hc => ?_) (fun hc => ?_)
        · rw [if_pos hc] at hf
          refine zEv_go 2 (f1 := (18, [some (.ref 0), some (.ref 1), some (.ref 73), some (.int (v3 + 5))], [])) (h1 := zHp I947) (fun n => rfl) ?_
          refine zEv_weak (L := [some (.ref 0), some (.ref 1), some (.ref 73), some (.int (v3 + 5))]) (by exact ⟨rfl, ⟨rfl, ⟨rfl, ⟨rfl, trivial⟩⟩⟩⟩) ?_
          exact ih hf
        · rw [if_neg hc] at hf
          cases hf
          exact zEv_ret 2 (fun n => rfl)
      rw [if_neg hc27] at hf
      by_cases hc28 : ((xs (Int32.toNatClampNeg v3)) &&& 31) = 28
      · rw [if_pos hc28] at hf
        refine zEv_tsk (off := 979) (t := 1011) 28 (by rfl) hc28 (by decide) rfl rfl ?_
        obtain ⟨hc, hf⟩ := zGd_inv hf
        refine zEv_gd 6 (c := zIn (v3 + 1) L) (f1 := (1017, [some (.ref 0), some (.ref 1), some (.ref 73), some (.int v3)], [.int (xs (Int32.toNatClampNeg (v3 + 1))), .ref 1])) (h1 := zHp I) (fun n => rfl) hc ?_
        obtain ⟨x948, hx, hf⟩ := Option.bind_eq_some_iff.mp hf
        refine zEv_call 1 (N := 107) (vs := [.ref 1, .int (xs (Int32.toNatClampNeg (v3 + 1)))]) (v1 := some (.int x948)) (h1 := zHp I) (L := [some (.ref 0), some (.ref 1), some (.ref 73), some (.int v3)]) (rest := []) (pc := 1020) (fun n => rfl) (s_BM_told hx d (by omega)) rfl rfl ?_
        show zEv _ _ _ (1020, [some (.ref 0), some (.ref 1), some (.ref 73), some (.int v3)], [.int x948]) _ _ _
        obtain ⟨hc, hf⟩ := zGd_inv hf
        refine zEv_gd 6 (c := zIn (v3 + 1) L) (f1 := (1026, [some (.ref 0), some (.ref 1), some (.ref 73), some (.int v3)], [.int (xs (Int32.toNatClampNeg (v3 + 1))), .ref 73, .int x948])) (h1 := zHp I) (fun n => rfl) hc ?_
        obtain ⟨x949, hx, hf⟩ := Option.bind_eq_some_iff.mp hf
        refine zEv_call 1 (N := 194) (vs := [.ref 73, .int (xs (Int32.toNatClampNeg (v3 + 1)))]) (v1 := some (.int x949)) (h1 := zHp I) (L := [some (.ref 0), some (.ref 1), some (.ref 73), some (.int v3)]) (rest := [.int x948]) (pc := 1029) (fun n => rfl) (s_Mo_told hx d (by omega)) rfl rfl ?_
        show zEv _ _ _ (1029, [some (.ref 0), some (.ref 1), some (.ref 73), some (.int v3)], [.int x949, .int x948]) _ _ _
        refine zEv_if 1 (c := x948 = x949) (f1 := (1034, [some (.ref 0), some (.ref 1), some (.ref 73), some (.int v3)], [])) (f2 := (1032, [some (.ref 0), some (.ref 1), some (.ref 73), some (.int v3)], [])) (h1 := zHp I) (fun n => rfl) (fun hc => ?_) (fun hc => ?_)
        · rw [if_pos hc] at hf
          refine zEv_go 2 (f1 := (18, [some (.ref 0), some (.ref 1), some (.ref 73), some (.int (v3 + 5))], [])) (h1 := zHp I) (fun n => rfl) ?_
          refine zEv_weak (L := [some (.ref 0), some (.ref 1), some (.ref 73), some (.int (v3 + 5))]) (by exact ⟨rfl, ⟨rfl, ⟨rfl, ⟨rfl, trivial⟩⟩⟩⟩) ?_
          exact ih hf
        · rw [if_neg hc] at hf
          cases hf
          exact zEv_ret 2 (fun n => rfl)
      rw [if_neg hc28] at hf
      have hn0 := zNt (k := 0) hc0 (by decide)
      have hn1 := zNt (k := 1) hc1 (by decide)
      have hn2 := zNt (k := 2) hc2 (by decide)
      have hn3 := zNt (k := 3) hc3 (by decide)
      have hn4 := zNt (k := 4) hc4 (by decide)
      have hn5 := zNt (k := 5) hc5 (by decide)
      have hn6 := zNt (k := 6) hc6 (by decide)
      have hn7 := zNt (k := 7) hc7 (by decide)
      have hn8 := zNt (k := 8) hc8 (by decide)
      have hn9 := zNt (k := 9) hc9 (by decide)
      have hn10 := zNt (k := 10) hc10 (by decide)
      have hn11 := zNt (k := 11) hc11 (by decide)
      have hn12 := zNt (k := 12) hc12 (by decide)
      have hn13 := zNt (k := 13) hc13 (by decide)
      have hn14 := zNt (k := 14) hc14 (by decide)
      have hn15 := zNt (k := 15) hc15 (by decide)
      have hn16 := zNt (k := 16) hc16 (by decide)
      have hn17 := zNt (k := 17) hc17 (by decide)
      have hn18 := zNt (k := 18) hc18 (by decide)
      have hn19 := zNt (k := 19) hc19 (by decide)
      have hn20 := zNt (k := 20) hc20 (by decide)
      have hn21 := zNt (k := 21) hc21 (by decide)
      have hn22 := zNt (k := 22) hc22 (by decide)
      have hn23 := zNt (k := 23) hc23 (by decide)
      have hn24 := zNt (k := 24) hc24 (by decide)
      have hn25 := zNt (k := 25) hc25 (by decide)
      have hn26 := zNt (k := 26) hc26 (by decide)
      have hn27 := zNt (k := 27) hc27 (by decide)
      have hn28 := zNt (k := 28) hc28 (by decide)
      refine zEv_tsd (t := 1034) (by rfl) (by omega) rfl ?_
      refine zEv_go 2 (f1 := (18, [some (.ref 0), some (.ref 1), some (.ref 73), some (.int (v3 + 5))], [])) (h1 := zHp I) (fun n => rfl) ?_
      refine zEv_weak (L := [some (.ref 0), some (.ref 1), some (.ref 73), some (.int (v3 + 5))]) (by exact ⟨rfl, ⟨rfl, ⟨rfl, ⟨rfl, trivial⟩⟩⟩⟩) ?_
      exact ih hf
