/-! the law as a function, by program (wip/gen) -/
def f_L_law_23 (N : Nat) (xs : Nat → Int32) : Nat → Option Nat → Option Nat → Option Nat → Int32 → XS → Option Int32
  | 0, _, _, _, _, _ => none
  | n + 1, x1, x2, x3, x4, st =>
    if ((Int32.ofNat N) - (6 : Int32)) < x4 then
      some 1
    else
      if x_in x4 N then
        if ((xs x4.toNatClampNeg) &&& (31 : Int32)) = 0 then
          match x1 with
          | none => none
          | some i4 =>
            match f_D_spawn i4 st with
            | none => none
            | some (v7, st8) =>
              match x2 with
              | none => none
              | some i9 =>
                match f_M_spawn i9 st8 with
                | none => none
                | some (v12, st13) =>
                  if v7 = v12 then
                    f_L_law_23 N xs n (some (i4)) (some (i9)) (x3) (x4 + 6) st13
                  else
                    some 0
        else if ((xs x4.toNatClampNeg) &&& (31 : Int32)) = 1 then
          if x_in (x4 + (1 : Int32)) N then
            match f_L_fork (x1) (xs (x4 + (1 : Int32)).toNatClampNeg) (x3) st with
            | none => none
            | some (v20, st21) =>
              if x_in (x4 + (1 : Int32)) N then
                match x2 with
                | none => none
                | some i23 =>
                  match f_M_fork i23 (xs (x4 + (1 : Int32)).toNatClampNeg) st21 with
                  | none => none
                  | some (v26, st27) =>
                    match f_M_thrown i23 st27 with
                    | none => none
                    | some v29 =>
                      if v29 = v20 then
                        if v20 = 0 then
                          match x3 with
                          | none => none
                          | some i32 =>
                            if x_in 0 1 then
                              if (lg_cmp (st27.2.1 64 i32 (0 : Int32).toNatClampNeg) (v26.toInt64)) = 0 then
                                f_L_law_23 N xs n (x1) (some (i23)) (some (i32)) (x4 + 6) st27
                              else
                                some 0
                            else none
                        else
                          f_L_law_23 N xs n (x1) (some (i23)) (x3) (x4 + 6) st27
                      else
                        some 0
              else none
          else none
        else if ((xs x4.toNatClampNeg) &&& (31 : Int32)) = 2 then
          if x_in (x4 + (1 : Int32)) N then
            match f_L_exit (x1) (xs (x4 + (1 : Int32)).toNatClampNeg) (x3) st with
            | none => none
            | some (v42, st43) =>
              if x_in (x4 + (1 : Int32)) N then
                match x2 with
                | none => none
                | some i45 =>
                  match f_M_exit i45 (xs (x4 + (1 : Int32)).toNatClampNeg) st43 with
                  | none => none
                  | some (v48, st49) =>
                    match f_M_thrown i45 st49 with
                    | none => none
                    | some v51 =>
                      if v51 = v42 then
                        if v42 = 0 then
                          match x3 with
                          | none => none
                          | some i54 =>
                            if x_in 0 1 then
                              if (lg_cmp (st49.2.1 64 i54 (0 : Int32).toNatClampNeg) (v48.toInt64)) = 0 then
                                f_L_law_23 N xs n (x1) (some (i45)) (some (i54)) (x4 + 6) st49
                              else
                                some 0
                            else none
                        else
                          f_L_law_23 N xs n (x1) (some (i45)) (x3) (x4 + 6) st49
                      else
                        some 0
              else none
          else none
        else if ((xs x4.toNatClampNeg) &&& (31 : Int32)) = 3 then
          if x_in (x4 + (1 : Int32)) N then
            if x_in (x4 + (2 : Int32)) N then
              if x_in (x4 + (3 : Int32)) N then
                match f_L_open (x1) (xs (x4 + (1 : Int32)).toNatClampNeg) (xs (x4 + (2 : Int32)).toNatClampNeg) (xs (x4 + (3 : Int32)).toNatClampNeg) (x3) st with
                | none => none
                | some (v66, st67) =>
                  if x_in (x4 + (1 : Int32)) N then
                    if x_in (x4 + (2 : Int32)) N then
                      if x_in (x4 + (3 : Int32)) N then
                        match x2 with
                        | none => none
                        | some i71 =>
                          match f_M_open i71 (xs (x4 + (1 : Int32)).toNatClampNeg) (xs (x4 + (2 : Int32)).toNatClampNeg) (xs (x4 + (3 : Int32)).toNatClampNeg) st67 with
                          | none => none
                          | some (v74, st75) =>
                            match f_M_thrown i71 st75 with
                            | none => none
                            | some v77 =>
                              if v77 = v66 then
                                if v66 = 0 then
                                  match x3 with
                                  | none => none
                                  | some i80 =>
                                    if x_in 0 1 then
                                      if (lg_cmp (st75.2.1 64 i80 (0 : Int32).toNatClampNeg) (v74.toInt64)) = 0 then
                                        f_L_law_23 N xs n (x1) (some (i71)) (some (i80)) (x4 + 6) st75
                                      else
                                        some 0
                                    else none
                                else
                                  f_L_law_23 N xs n (x1) (some (i71)) (x3) (x4 + 6) st75
                              else
                                some 0
                      else none
                    else none
                  else none
              else none
            else none
          else none
        else if ((xs x4.toNatClampNeg) &&& (31 : Int32)) = 4 then
          if x_in (x4 + (1 : Int32)) N then
            match f_L_pipe (x1) (xs (x4 + (1 : Int32)).toNatClampNeg) (x3) st with
            | none => none
            | some (v90, st91) =>
              if x_in (x4 + (1 : Int32)) N then
                match x2 with
                | none => none
                | some i93 =>
                  match f_M_pipe i93 (xs (x4 + (1 : Int32)).toNatClampNeg) st91 with
                  | none => none
                  | some (v96, st97) =>
                    match f_M_thrown i93 st97 with
                    | none => none
                    | some v99 =>
                      if v99 = v90 then
                        if v90 = 0 then
                          match x3 with
                          | none => none
                          | some i102 =>
                            if x_in 0 1 then
                              if (lg_cmp (st97.2.1 64 i102 (0 : Int32).toNatClampNeg) (v96.toInt64)) = 0 then
                                f_L_law_23 N xs n (x1) (some (i93)) (some (i102)) (x4 + 6) st97
                              else
                                some 0
                            else none
                        else
                          f_L_law_23 N xs n (x1) (some (i93)) (x3) (x4 + 6) st97
                      else
                        some 0
              else none
          else none
        else if ((xs x4.toNatClampNeg) &&& (31 : Int32)) = 5 then
          if x_in (x4 + (1 : Int32)) N then
            if x_in (x4 + (2 : Int32)) N then
              if x_in (x4 + (3 : Int32)) N then
                match f_L_read (x1) (xs (x4 + (1 : Int32)).toNatClampNeg) (xs (x4 + (2 : Int32)).toNatClampNeg) (xs (x4 + (3 : Int32)).toNatClampNeg) (x3) st with
                | none => none
                | some (v114, st115) =>
                  if x_in (x4 + (1 : Int32)) N then
                    if x_in (x4 + (2 : Int32)) N then
                      if x_in (x4 + (3 : Int32)) N then
                        match x2 with
                        | none => none
                        | some i119 =>
                          match f_M_read i119 (xs (x4 + (1 : Int32)).toNatClampNeg) (xs (x4 + (2 : Int32)).toNatClampNeg) (xs (x4 + (3 : Int32)).toNatClampNeg) st115 with
                          | none => none
                          | some (v122, st123) =>
                            match f_M_thrown i119 st123 with
                            | none => none
                            | some v125 =>
                              if v125 = v114 then
                                if v114 = 0 then
                                  match x3 with
                                  | none => none
                                  | some i128 =>
                                    if x_in 0 1 then
                                      if (lg_cmp (st123.2.1 64 i128 (0 : Int32).toNatClampNeg) (v122.toInt64)) = 0 then
                                        f_L_law_23 N xs n (x1) (some (i119)) (some (i128)) (x4 + 6) st123
                                      else
                                        some 0
                                    else none
                                else
                                  f_L_law_23 N xs n (x1) (some (i119)) (x3) (x4 + 6) st123
                              else
                                some 0
                      else none
                    else none
                  else none
              else none
            else none
          else none
        else if ((xs x4.toNatClampNeg) &&& (31 : Int32)) = 6 then
          if x_in (x4 + (1 : Int32)) N then
            match x1 with
            | none => none
            | some i137 =>
              match f_D_given i137 (xs (x4 + (1 : Int32)).toNatClampNeg) st with
              | none => none
              | some v140 =>
                if x_in (x4 + (1 : Int32)) N then
                  match x2 with
                  | none => none
                  | some i142 =>
                    match f_M_given i142 (xs (x4 + (1 : Int32)).toNatClampNeg) st with
                    | none => none
                    | some (v145, st146) =>
                      if (lg_cmp v140 v145) = 0 then
                        f_L_law_23 N xs n (some (i137)) (some (i142)) (x3) (x4 + 6) st146
                      else
                        some 0
                else none
          else none
        else if ((xs x4.toNatClampNeg) &&& (31 : Int32)) = 7 then
          if x_in (x4 + (1 : Int32)) N then
            if x_in (x4 + (2 : Int32)) N then
              if x_in (x4 + (3 : Int32)) N then
                if x_in (x4 + (4 : Int32)) N then
                  if x_in (x4 + (5 : Int32)) N then
                    match f_L_write (x1) (xs (x4 + (1 : Int32)).toNatClampNeg) (xs (x4 + (2 : Int32)).toNatClampNeg) ((((xs (x4 + (3 : Int32)).toNatClampNeg).toInt64) <<< ((32 : Int32).toInt64 &&& 63)) ||| (((xs (x4 + (4 : Int32)).toNatClampNeg).toInt64) &&& (4294967295 : Int64))) (xs (x4 + (5 : Int32)).toNatClampNeg) (x3) st with
                    | none => none
                    | some (v157, st158) =>
                      if x_in (x4 + (1 : Int32)) N then
                        if x_in (x4 + (2 : Int32)) N then
                          if x_in (x4 + (3 : Int32)) N then
                            if x_in (x4 + (4 : Int32)) N then
                              if x_in (x4 + (5 : Int32)) N then
                                match x2 with
                                | none => none
                                | some i164 =>
                                  match f_M_write i164 (xs (x4 + (1 : Int32)).toNatClampNeg) (xs (x4 + (2 : Int32)).toNatClampNeg) ((((xs (x4 + (3 : Int32)).toNatClampNeg).toInt64) <<< ((32 : Int32).toInt64 &&& 63)) ||| (((xs (x4 + (4 : Int32)).toNatClampNeg).toInt64) &&& (4294967295 : Int64))) (xs (x4 + (5 : Int32)).toNatClampNeg) st158 with
                                  | none => none
                                  | some (v167, st168) =>
                                    match f_M_thrown i164 st168 with
                                    | none => none
                                    | some v170 =>
                                      if v170 = v157 then
                                        if v157 = 0 then
                                          match x3 with
                                          | none => none
                                          | some i173 =>
                                            if x_in 0 1 then
                                              if (lg_cmp (st168.2.1 64 i173 (0 : Int32).toNatClampNeg) (v167.toInt64)) = 0 then
                                                f_L_law_23 N xs n (x1) (some (i164)) (some (i173)) (x4 + 6) st168
                                              else
                                                some 0
                                            else none
                                        else
                                          f_L_law_23 N xs n (x1) (some (i164)) (x3) (x4 + 6) st168
                                      else
                                        some 0
                              else none
                            else none
                          else none
                        else none
                      else none
                  else none
                else none
              else none
            else none
          else none
        else if ((xs x4.toNatClampNeg) &&& (31 : Int32)) = 8 then
          if x_in (x4 + (1 : Int32)) N then
            if x_in (x4 + (2 : Int32)) N then
              match f_L_close (x1) (xs (x4 + (1 : Int32)).toNatClampNeg) (xs (x4 + (2 : Int32)).toNatClampNeg) (x3) st with
              | none => none
              | some (v184, st185) =>
                if x_in (x4 + (1 : Int32)) N then
                  if x_in (x4 + (2 : Int32)) N then
                    match x2 with
                    | none => none
                    | some i188 =>
                      match f_M_close i188 (xs (x4 + (1 : Int32)).toNatClampNeg) (xs (x4 + (2 : Int32)).toNatClampNeg) st185 with
                      | none => none
                      | some (v191, st192) =>
                        match f_M_thrown i188 st192 with
                        | none => none
                        | some v194 =>
                          if v194 = v184 then
                            if v184 = 0 then
                              match x3 with
                              | none => none
                              | some i197 =>
                                if x_in 0 1 then
                                  if (lg_cmp (st192.2.1 64 i197 (0 : Int32).toNatClampNeg) (v191.toInt64)) = 0 then
                                    f_L_law_23 N xs n (x1) (some (i188)) (some (i197)) (x4 + 6) st192
                                  else
                                    some 0
                                else none
                            else
                              f_L_law_23 N xs n (x1) (some (i188)) (x3) (x4 + 6) st192
                          else
                            some 0
                  else none
                else none
            else none
          else none
        else if ((xs x4.toNatClampNeg) &&& (31 : Int32)) = 9 then
          if x_in (x4 + (1 : Int32)) N then
            if x_in (x4 + (2 : Int32)) N then
              if x_in (x4 + (3 : Int32)) N then
                match f_L_dup (x1) (xs (x4 + (1 : Int32)).toNatClampNeg) (xs (x4 + (2 : Int32)).toNatClampNeg) (xs (x4 + (3 : Int32)).toNatClampNeg) (x3) st with
                | none => none
                | some (v209, st210) =>
                  if x_in (x4 + (1 : Int32)) N then
                    if x_in (x4 + (2 : Int32)) N then
                      if x_in (x4 + (3 : Int32)) N then
                        match x2 with
                        | none => none
                        | some i214 =>
                          match f_M_dup i214 (xs (x4 + (1 : Int32)).toNatClampNeg) (xs (x4 + (2 : Int32)).toNatClampNeg) (xs (x4 + (3 : Int32)).toNatClampNeg) st210 with
                          | none => none
                          | some (v217, st218) =>
                            match f_M_thrown i214 st218 with
                            | none => none
                            | some v220 =>
                              if v220 = v209 then
                                if v209 = 0 then
                                  match x3 with
                                  | none => none
                                  | some i223 =>
                                    if x_in 0 1 then
                                      if (lg_cmp (st218.2.1 64 i223 (0 : Int32).toNatClampNeg) (v217.toInt64)) = 0 then
                                        f_L_law_23 N xs n (x1) (some (i214)) (some (i223)) (x4 + 6) st218
                                      else
                                        some 0
                                    else none
                                else
                                  f_L_law_23 N xs n (x1) (some (i214)) (x3) (x4 + 6) st218
                              else
                                some 0
                      else none
                    else none
                  else none
              else none
            else none
          else none
        else if ((xs x4.toNatClampNeg) &&& (31 : Int32)) = 10 then
          if x_in (x4 + (1 : Int32)) N then
            if x_in (x4 + (2 : Int32)) N then
              if x_in (x4 + (3 : Int32)) N then
                if x_in (x4 + (4 : Int32)) N then
                  match f_L_seek (x1) (xs (x4 + (1 : Int32)).toNatClampNeg) (xs (x4 + (2 : Int32)).toNatClampNeg) (xs (x4 + (3 : Int32)).toNatClampNeg) (xs (x4 + (4 : Int32)).toNatClampNeg) (x3) st with
                  | none => none
                  | some (v236, st237) =>
                    if x_in (x4 + (1 : Int32)) N then
                      if x_in (x4 + (2 : Int32)) N then
                        if x_in (x4 + (3 : Int32)) N then
                          if x_in (x4 + (4 : Int32)) N then
                            match x2 with
                            | none => none
                            | some i242 =>
                              match f_M_seek i242 (xs (x4 + (1 : Int32)).toNatClampNeg) (xs (x4 + (2 : Int32)).toNatClampNeg) (xs (x4 + (3 : Int32)).toNatClampNeg) (xs (x4 + (4 : Int32)).toNatClampNeg) st237 with
                              | none => none
                              | some (v245, st246) =>
                                match f_M_thrown i242 st246 with
                                | none => none
                                | some v248 =>
                                  if v248 = v236 then
                                    if v236 = 0 then
                                      match x3 with
                                      | none => none
                                      | some i251 =>
                                        if x_in 0 1 then
                                          if (lg_cmp (st246.2.1 64 i251 (0 : Int32).toNatClampNeg) (v245.toInt64)) = 0 then
                                            f_L_law_23 N xs n (x1) (some (i242)) (some (i251)) (x4 + 6) st246
                                          else
                                            some 0
                                        else none
                                    else
                                      f_L_law_23 N xs n (x1) (some (i242)) (x3) (x4 + 6) st246
                                  else
                                    some 0
                          else none
                        else none
                      else none
                    else none
                else none
              else none
            else none
          else none
        else if ((xs x4.toNatClampNeg) &&& (31 : Int32)) = 11 then
          if x_in (x4 + (1 : Int32)) N then
            if x_in (x4 + (2 : Int32)) N then
              match f_L_unlink (x1) (xs (x4 + (1 : Int32)).toNatClampNeg) (xs (x4 + (2 : Int32)).toNatClampNeg) (x3) st with
              | none => none
              | some (v262, st263) =>
                if x_in (x4 + (1 : Int32)) N then
                  if x_in (x4 + (2 : Int32)) N then
                    match x2 with
                    | none => none
                    | some i266 =>
                      match f_M_unlink i266 (xs (x4 + (1 : Int32)).toNatClampNeg) (xs (x4 + (2 : Int32)).toNatClampNeg) st263 with
                      | none => none
                      | some (v269, st270) =>
                        match f_M_thrown i266 st270 with
                        | none => none
                        | some v272 =>
                          if v272 = v262 then
                            if v262 = 0 then
                              match x3 with
                              | none => none
                              | some i275 =>
                                if x_in 0 1 then
                                  if (lg_cmp (st270.2.1 64 i275 (0 : Int32).toNatClampNeg) (v269.toInt64)) = 0 then
                                    f_L_law_23 N xs n (x1) (some (i266)) (some (i275)) (x4 + 6) st270
                                  else
                                    some 0
                                else none
                            else
                              f_L_law_23 N xs n (x1) (some (i266)) (x3) (x4 + 6) st270
                          else
                            some 0
                  else none
                else none
            else none
          else none
        else if ((xs x4.toNatClampNeg) &&& (31 : Int32)) = 12 then
          if x_in (x4 + (1 : Int32)) N then
            if x_in (x4 + (2 : Int32)) N then
              if x_in (x4 + (3 : Int32)) N then
                match f_L_rename (x1) (xs (x4 + (1 : Int32)).toNatClampNeg) (xs (x4 + (2 : Int32)).toNatClampNeg) (xs (x4 + (3 : Int32)).toNatClampNeg) (x3) st with
                | none => none
                | some (v287, st288) =>
                  if x_in (x4 + (1 : Int32)) N then
                    if x_in (x4 + (2 : Int32)) N then
                      if x_in (x4 + (3 : Int32)) N then
                        match x2 with
                        | none => none
                        | some i292 =>
                          match f_M_rename i292 (xs (x4 + (1 : Int32)).toNatClampNeg) (xs (x4 + (2 : Int32)).toNatClampNeg) (xs (x4 + (3 : Int32)).toNatClampNeg) st288 with
                          | none => none
                          | some (v295, st296) =>
                            match f_M_thrown i292 st296 with
                            | none => none
                            | some v298 =>
                              if v298 = v287 then
                                if v287 = 0 then
                                  match x3 with
                                  | none => none
                                  | some i301 =>
                                    if x_in 0 1 then
                                      if (lg_cmp (st296.2.1 64 i301 (0 : Int32).toNatClampNeg) (v295.toInt64)) = 0 then
                                        f_L_law_23 N xs n (x1) (some (i292)) (some (i301)) (x4 + 6) st296
                                      else
                                        some 0
                                    else none
                                else
                                  f_L_law_23 N xs n (x1) (some (i292)) (x3) (x4 + 6) st296
                              else
                                some 0
                      else none
                    else none
                  else none
              else none
            else none
          else none
        else if ((xs x4.toNatClampNeg) &&& (31 : Int32)) = 13 then
          if x_in (x4 + (1 : Int32)) N then
            match f_L_type (x1) (xs (x4 + (1 : Int32)).toNatClampNeg) (x3) st with
            | none => none
            | some (v311, st312) =>
              if x_in (x4 + (1 : Int32)) N then
                match x2 with
                | none => none
                | some i314 =>
                  match f_M_type i314 (xs (x4 + (1 : Int32)).toNatClampNeg) st312 with
                  | none => none
                  | some (v317, st318) =>
                    match f_M_thrown i314 st318 with
                    | none => none
                    | some v320 =>
                      if v320 = v311 then
                        if v311 = 0 then
                          match x3 with
                          | none => none
                          | some i323 =>
                            if x_in 0 1 then
                              if (lg_cmp (st318.2.1 64 i323 (0 : Int32).toNatClampNeg) (v317.toInt64)) = 0 then
                                f_L_law_23 N xs n (x1) (some (i314)) (some (i323)) (x4 + 6) st318
                              else
                                some 0
                            else none
                        else
                          f_L_law_23 N xs n (x1) (some (i314)) (x3) (x4 + 6) st318
                      else
                        some 0
              else none
          else none
        else if ((xs x4.toNatClampNeg) &&& (31 : Int32)) = 14 then
          if x_in (x4 + (1 : Int32)) N then
            match x1 with
            | none => none
            | some i332 =>
              match f_D_shown i332 (xs (x4 + (1 : Int32)).toNatClampNeg) st with
              | none => none
              | some v335 =>
                if x_in (x4 + (1 : Int32)) N then
                  match x2 with
                  | none => none
                  | some i337 =>
                    match f_M_shown i337 (xs (x4 + (1 : Int32)).toNatClampNeg) st with
                    | none => none
                    | some (v340, st341) =>
                      if v335 = v340 then
                        f_L_law_23 N xs n (some (i332)) (some (i337)) (x3) (x4 + 6) st341
                      else
                        some 0
                else none
          else none
        else if ((xs x4.toNatClampNeg) &&& (31 : Int32)) = 15 then
          if x_in (x4 + (1 : Int32)) N then
            if x_in (x4 + (2 : Int32)) N then
              match x1 with
              | none => none
              | some i348 =>
                match f_D_state i348 (xs (x4 + (1 : Int32)).toNatClampNeg) (xs (x4 + (2 : Int32)).toNatClampNeg) st with
                | none => none
                | some v351 =>
                  if x_in (x4 + (1 : Int32)) N then
                    if x_in (x4 + (2 : Int32)) N then
                      match x2 with
                      | none => none
                      | some i354 =>
                        match f_M_state i354 (xs (x4 + (1 : Int32)).toNatClampNeg) (xs (x4 + (2 : Int32)).toNatClampNeg) st with
                        | none => none
                        | some (v357, st358) =>
                          if v351 = v357 then
                            f_L_law_23 N xs n (some (i348)) (some (i354)) (x3) (x4 + 6) st358
                          else
                            some 0
                    else none
                  else none
            else none
          else none
        else if ((xs x4.toNatClampNeg) &&& (31 : Int32)) = 16 then
          if x_in (x4 + (1 : Int32)) N then
            if x_in (x4 + (2 : Int32)) N then
              if x_in (x4 + (3 : Int32)) N then
                match x1 with
                | none => none
                | some i366 =>
                  match f_D_about i366 (xs (x4 + (1 : Int32)).toNatClampNeg) (xs (x4 + (2 : Int32)).toNatClampNeg) (xs (x4 + (3 : Int32)).toNatClampNeg) st with
                  | none => none
                  | some v369 =>
                    if x_in (x4 + (1 : Int32)) N then
                      if x_in (x4 + (2 : Int32)) N then
                        if x_in (x4 + (3 : Int32)) N then
                          match x2 with
                          | none => none
                          | some i373 =>
                            match f_M_about i373 (xs (x4 + (1 : Int32)).toNatClampNeg) (xs (x4 + (2 : Int32)).toNatClampNeg) (xs (x4 + (3 : Int32)).toNatClampNeg) st with
                            | none => none
                            | some (v376, st377) =>
                              if v369 = v376 then
                                f_L_law_23 N xs n (some (i366)) (some (i373)) (x3) (x4 + 6) st377
                              else
                                some 0
                        else none
                      else none
                    else none
              else none
            else none
          else none
        else if ((xs x4.toNatClampNeg) &&& (31 : Int32)) = 17 then
          if x_in (x4 + (1 : Int32)) N then
            match x1 with
            | none => none
            | some i383 =>
              match f_D_count i383 (xs (x4 + (1 : Int32)).toNatClampNeg) st with
              | none => none
              | some v386 =>
                if x_in (x4 + (1 : Int32)) N then
                  match x2 with
                  | none => none
                  | some i388 =>
                    match f_M_count i388 (xs (x4 + (1 : Int32)).toNatClampNeg) st with
                    | none => none
                    | some (v391, st392) =>
                      if v386 = v391 then
                        f_L_law_23 N xs n (some (i383)) (some (i388)) (x3) (x4 + 6) st392
                      else
                        some 0
                else none
          else none
        else
          f_L_law_23 N xs n (x1) (x2) (x3) (x4 + 6) st
      else none
set_option maxRecDepth 100000 in
set_option maxHeartbeats 40000000 in
theorem v_L_law_23 {p : Program} {l : Launch} {e : Env} {s : State} {m : MethodId} {below : List Frame} {meth : Method} {c : Code} {D : va_G} {cA : Nat → ClassId} {g0 : Nat → Nat → Nat} {n0 : Nat → Nat} {b N : Nat} {xs : Nat → Int32} (C : x_C p e room_1 s m #[Value.ref b] meth c D cA (fun q => s.heap.size ≤ q) code "DescriptorDeskLaw" 7) (hret : meth.sig.returnType = ret) (hfl : l.flags = flags0) (hX : va_X b N xs s s.heap) (hbl : b < s.heap.size) : ∀ (n : Nat) (x1 : Option Nat) (x2 : Option Nat) (x3 : Option Nat) (x4 : Int32) (st : XS) (cells slots : Nat), cells + n ≤ 601024 → slots + 6 * n ≤ 7293034 → f_L_law_23 N xs n x1 x2 x3 x4 st = some 1 → x_V p l e room_1 s m #[Value.ref b] below meth c D cA (fun q => s.heap.size ≤ q) 7 g0 n0 (lw_Z below #[Value.ref b] s) 23 [(0, xA (b)), (1, xR 0 (x1)), (2, xR 32 (x2)), (3, xR 64 (x3)), (4, xI (x4))] [] st cells slots := by
  intro n
  induction n with
  | zero => intro x1 x2 x3 x4 st cells slots hc hs h; cases h
  | succ n ih =>
    intro x1 x2 x3 x4 st cells slots hc hs h
    rw [f_L_law_23.eq_def] at h
    dsimp only at h
    refine x_iload (pc := 23) C (d_L_law 13 rfl) 4 rfl ?_
    refine x_aload_n (pc := 25) C (d_L_law 14 rfl) rfl 0 rfl ?_
    refine x_slen (pc := 26) C hX hbl (Nat.not_le.mpr hbl) (d_L_law 15 rfl) ?_
    refine x_bipush (pc := 27) (v := 6) C (by decide) (d_L_law 16 rfl) ?_
    refine x_isub (pc := 29) C (d_L_law 17 rfl) ?_
    refine x_icmp_gt (pc := 30) (tgt := 1205) C (d_L_law 18 rfl) (by decide) (fun c1 => ?_) (fun c1 => ?_)
    · rw [if_pos c1] at h
      refine x_iconst (pc := 1205) (v := 1) C (by decide) (d_L_law 754 rfl) ?_
      exact x_lawret (pc := 1206) C hret (by omega) (by omega) (d_L_law 755 rfl)
    · rw [if_neg c1] at h
      refine x_aload_n (pc := 33) C (d_L_law 19 rfl) rfl 0 rfl ?_
      refine x_iload (pc := 34) C (d_L_law 20 rfl) 4 rfl ?_
      by_cases b2 : x_in x4 N
      · rw [if_pos b2] at h
        refine x_sld (pc := 36) C hX hbl (Nat.not_le.mpr hbl) (x_in_n b2) (d_L_law 21 rfl) ?_
        refine x_bipush (pc := 37) (v := 31) C (by decide) (d_L_law 22 rfl) ?_
        refine x_iand (pc := 39) C (d_L_law 23 rfl) ?_
        by_cases c3 : ((xs x4.toNatClampNeg) &&& (31 : Int32)) = 0
        · rw [if_pos c3] at h
          refine x_tsw (pc := 40) (v := 0) (tgt := 128) C (d_L_law 24 rfl) c3 (by decide) (by decide) rfl (by decide) ?_
          refine x_aload_n (pc := 128) C (d_L_law 25 rfl) rfl 1 rfl ?_
          cases c5 : x1 with
          | none => rw [c5] at h; cases h
          | some i4 =>
            rw [c5] at h
            dsimp only at h
            cases c6 : f_D_spawn i4 st with
            | none => rw [c6] at h; cases h
            | some w16 =>
              obtain ⟨v7, st8⟩ := w16
              rw [c6] at h
              dsimp only at h
              refine x_callV (mc := 0) (ms := 0) (pc := 129) (bL := []) (K := []) C cs_L_58 (m_D_spawn l c6 : x_M l _ _ _ _ (.inl (some (xI v7))) _ 0 0) ⟨by decide, by decide, by show _ + 0 ≤ 601024; omega, by show _ + 0 ≤ 7293034; omega⟩ rfl (Nat.le_of_ble_eq_true rfl) (d_L_law 26 rfl) ?_
              refine x_aload_n (pc := 132) C (d_L_law 27 rfl) rfl 2 rfl ?_
              cases c10 : x2 with
              | none => rw [c10] at h; cases h
              | some i9 =>
                rw [c10] at h
                dsimp only at h
                cases c11 : f_M_spawn i9 st8 with
                | none => rw [c11] at h; cases h
                | some w15 =>
                  obtain ⟨v12, st13⟩ := w15
                  rw [c11] at h
                  dsimp only at h
                  refine x_callV (mc := 0) (ms := 0) (pc := 133) (bL := []) (K := [xI (v7)]) C cs_L_62 (m_M_spawn l c11 : x_M l _ _ _ _ (.inl (some (xI v12))) _ 0 0) ⟨by decide, by decide, by show _ + 0 ≤ 601024; omega, by show _ + 0 ≤ 7293034; omega⟩ rfl (Nat.le_of_ble_eq_true rfl) (d_L_law 28 rfl) ?_
                  refine x_icmp_eq (pc := 136) (tgt := 1199) C (d_L_law 29 rfl) (by decide) (fun c14 => ?_) (fun c14 => ?_)
                  · rw [if_pos c14] at h
                    refine x_iinc (pc := 1199) (v := x4 + 6) (L2 := [(4, xI (x4 + 6)), (0, xA (b)), (1, xR 0 (some (i4))), (2, xR 32 (some (i9))), (3, xR 64 (x3))]) C (d_L_law 752 rfl) 4 rfl rfl (by decide) rfl ?_
                    refine x_goto (pc := 1202) (tgt := 23) C (d_L_law 753 rfl) (by decide) ?_
                    exact x_sub [1, 2, 3, 4, 0] rfl (ih _ _ _ _ _ _ _ (by omega) (by omega) h)
                  · rw [if_neg c14] at h
                    refine x_iconst (pc := 139) (v := 0) C (by decide) (d_L_law 30 rfl) ?_
                    exact absurd (Option.some.inj h) (by decide)
        rw [if_neg c3] at h
        by_cases c17 : ((xs x4.toNatClampNeg) &&& (31 : Int32)) = 1
        · rw [if_pos c17] at h
          refine x_tsw (pc := 40) (v := 1) (tgt := 141) C (d_L_law 24 rfl) c17 (by decide) (by decide) rfl (by decide) ?_
          refine x_aload_n (pc := 141) C (d_L_law 32 rfl) rfl 1 rfl ?_
          refine x_aload_n (pc := 142) C (d_L_law 33 rfl) rfl 0 rfl ?_
          refine x_iload (pc := 143) C (d_L_law 34 rfl) 4 rfl ?_
          refine x_iconst (pc := 145) (v := 1) C (by decide) (d_L_law 35 rfl) ?_
          refine x_iadd (pc := 146) C (d_L_law 36 rfl) ?_
          by_cases b18 : x_in (x4 + (1 : Int32)) N
          · rw [if_pos b18] at h
            refine x_sld (pc := 147) C hX hbl (Nat.not_le.mpr hbl) (x_in_n b18) (d_L_law 37 rfl) ?_
            refine x_aload_n (pc := 148) C (d_L_law 38 rfl) rfl 3 rfl ?_
            cases c19 : f_L_fork (x1) (xs (x4 + (1 : Int32)).toNatClampNeg) (x3) st with
            | none => rw [c19] at h; cases h
            | some w38 =>
              obtain ⟨v20, st21⟩ := w38
              rw [c19] at h
              dsimp only at h
              refine x_callS (mc := 1) (ms := 6) (pc := 149) (aL := [xR 0 (x1), xI (xs (x4 + (1 : Int32)).toNatClampNeg), xR 64 (x3)]) (K := []) C cs_L_63 (m_L_fork l hfl c19 : x_M l _ _ _ _ (.inl (some (xI v20))) _ 1 6) ⟨by decide, by decide, by show _ + 1 ≤ 601024; omega, by show _ + 6 ≤ 7293034; omega⟩ rfl (Nat.le_of_ble_eq_true rfl) (d_L_law 39 rfl) ?_
              refine x_istore (pc := 152) (L2 := [(5, xI (v20)), (0, xA (b)), (1, xR 0 (x1)), (2, xR 32 (x2)), (3, xR 64 (x3)), (4, xI (x4))]) C (d_L_law 40 rfl) (by decide) rfl ?_
              refine x_aload_n (pc := 154) C (d_L_law 41 rfl) rfl 3 rfl ?_
              refine x_aload_n (pc := 155) C (d_L_law 42 rfl) rfl 1 rfl ?_
              refine x_iload (pc := 156) C (d_L_law 43 rfl) 5 rfl ?_
              refine x_iconst (pc := 158) (v := 1) C (by decide) (d_L_law 44 rfl) ?_
              refine x_iadd (pc := 159) C (d_L_law 45 rfl) ?_
              by_cases b22 : x_in (x4 + (1 : Int32)) N
              · rw [if_pos b22] at h
                refine x_sld (pc := 160) C hX hbl (Nat.not_le.mpr hbl) (x_in_n b22) (d_L_law 46 rfl) ?_
                cases c24 : x2 with
                | none => rw [c24] at h; cases h
                | some i23 =>
                  rw [c24] at h
                  dsimp only at h
                  cases c25 : f_M_fork i23 (xs (x4 + (1 : Int32)).toNatClampNeg) st21 with
                  | none => rw [c25] at h; cases h
                  | some w37 =>
                    obtain ⟨v26, st27⟩ := w37
                    rw [c25] at h
                    dsimp only at h
                    refine x_callV (mc := 0) (ms := 0) (pc := 161) (bL := [xI (xs (x4 + (1 : Int32)).toNatClampNeg)]) (K := []) C cs_L_68 (m_M_fork l c25 : x_M l _ _ _ _ (.inl (some (xI v26))) _ 0 0) ⟨by decide, by decide, by show _ + 0 ≤ 601024; omega, by show _ + 0 ≤ 7293034; omega⟩ rfl (Nat.le_of_ble_eq_true rfl) (d_L_law 47 rfl) ?_
                    refine x_istore (pc := 164) (L2 := [(6, xI (v26)), (5, xI (v20)), (0, xA (b)), (1, xR 0 (x1)), (2, xR 32 (some (i23))), (3, xR 64 (x3)), (4, xI (x4))]) C (d_L_law 48 rfl) (by decide) rfl ?_
                    refine x_aload_n (pc := 166) C (d_L_law 49 rfl) rfl 4 rfl ?_
                    cases c28 : f_M_thrown i23 st27 with
                    | none => rw [c28] at h; cases h
                    | some v29 =>
                      rw [c28] at h
                      dsimp only at h
                      refine x_callV (mc := 0) (ms := 0) (pc := 167) (bL := []) (K := []) C cs_L_69 (m_M_thrown l c28 : x_M l _ _ _ _ (.inl (some (xI v29))) _ 0 0) ⟨by decide, by decide, by show _ + 0 ≤ 601024; omega, by show _ + 0 ≤ 7293034; omega⟩ rfl (Nat.le_of_ble_eq_true rfl) (d_L_law 50 rfl) ?_
                      refine x_iload (pc := 170) C (d_L_law 51 rfl) 1 rfl ?_
                      refine x_icmp_eq (pc := 172) (tgt := 177) C (d_L_law 52 rfl) (by decide) (fun c30 => ?_) (fun c30 => ?_)
                      · rw [if_pos c30] at h
                        refine x_iload (pc := 177) C (d_L_law 55 rfl) 1 rfl ?_
                        refine x_if_ne (pc := 179) (tgt := 194) C (d_L_law 56 rfl) (by decide) (fun c31 => ?_) (fun c31 => ?_)
                        · rw [if_neg c31] at h
                          refine x_goto (pc := 194) (tgt := 1199) C (d_L_law 66 rfl) (by decide) ?_
                          refine x_iinc (pc := 1199) (v := x4 + 6) (L2 := [(4, xI (x4 + 6)), (6, xI (v26)), (5, xI (v20)), (0, xA (b)), (1, xR 0 (x1)), (2, xR 32 (some (i23))), (3, xR 64 (x3))]) C (d_L_law 752 rfl) 6 rfl rfl (by decide) rfl ?_
                          refine x_goto (pc := 1202) (tgt := 23) C (d_L_law 753 rfl) (by decide) ?_
                          exact x_sub [3, 4, 5, 6, 0] rfl (ih _ _ _ _ _ _ _ (by omega) (by omega) h)
                        · rw [if_pos c31] at h
                          refine x_aload_n (pc := 182) C (d_L_law 57 rfl) rfl 5 rfl ?_
                          refine x_iconst (pc := 183) (v := 0) C (by decide) (d_L_law 58 rfl) ?_
                          cases c33 : x3 with
                          | none => rw [c33] at h; cases h
                          | some i32 =>
                            rw [c33] at h
                            dsimp only at h
                            by_cases b34 : x_in 0 1
                            · rw [if_pos b34] at h
                              refine x_lald (pc := 184) C ar_64 b34 (d_L_law 59 rfl) ?_
                              refine x_iload (pc := 185) C (d_L_law 60 rfl) 0 rfl ?_
                              refine x_i2l (pc := 187) C (d_L_law 61 rfl) ?_
                              refine x_lcmp (pc := 188) C (d_L_law 62 rfl) ?_
                              refine x_if_eq (pc := 189) (tgt := 194) C (d_L_law 63 rfl) (by decide) (fun c35 => ?_) (fun c35 => ?_)
                              · rw [if_pos c35] at h
                                refine x_goto (pc := 194) (tgt := 1199) C (d_L_law 66 rfl) (by decide) ?_
                                refine x_iinc (pc := 1199) (v := x4 + 6) (L2 := [(4, xI (x4 + 6)), (6, xI (v26)), (5, xI (v20)), (0, xA (b)), (1, xR 0 (x1)), (2, xR 32 (some (i23))), (3, xR 64 (some (i32)))]) C (d_L_law 752 rfl) 6 rfl rfl (by decide) rfl ?_
                                refine x_goto (pc := 1202) (tgt := 23) C (d_L_law 753 rfl) (by decide) ?_
                                exact x_sub [3, 4, 5, 6, 0] rfl (ih _ _ _ _ _ _ _ (by omega) (by omega) h)
                              · rw [if_neg c35] at h
                                refine x_iconst (pc := 192) (v := 0) C (by decide) (d_L_law 64 rfl) ?_
                                exact absurd (Option.some.inj h) (by decide)
                            · rw [if_neg b34] at h; cases h
                      · rw [if_neg c30] at h
                        refine x_iconst (pc := 175) (v := 0) C (by decide) (d_L_law 53 rfl) ?_
                        exact absurd (Option.some.inj h) (by decide)
              · rw [if_neg b22] at h; cases h
          · rw [if_neg b18] at h; cases h
        rw [if_neg c17] at h
        by_cases c39 : ((xs x4.toNatClampNeg) &&& (31 : Int32)) = 2
        · rw [if_pos c39] at h
          refine x_tsw (pc := 40) (v := 2) (tgt := 197) C (d_L_law 24 rfl) c39 (by decide) (by decide) rfl (by decide) ?_
          refine x_aload_n (pc := 197) C (d_L_law 67 rfl) rfl 1 rfl ?_
          refine x_aload_n (pc := 198) C (d_L_law 68 rfl) rfl 0 rfl ?_
          refine x_iload (pc := 199) C (d_L_law 69 rfl) 4 rfl ?_
          refine x_iconst (pc := 201) (v := 1) C (by decide) (d_L_law 70 rfl) ?_
          refine x_iadd (pc := 202) C (d_L_law 71 rfl) ?_
          by_cases b40 : x_in (x4 + (1 : Int32)) N
          · rw [if_pos b40] at h
            refine x_sld (pc := 203) C hX hbl (Nat.not_le.mpr hbl) (x_in_n b40) (d_L_law 72 rfl) ?_
            refine x_aload_n (pc := 204) C (d_L_law 73 rfl) rfl 3 rfl ?_
            cases c41 : f_L_exit (x1) (xs (x4 + (1 : Int32)).toNatClampNeg) (x3) st with
            | none => rw [c41] at h; cases h
            | some w60 =>
              obtain ⟨v42, st43⟩ := w60
              rw [c41] at h
              dsimp only at h
              refine x_callS (mc := 1) (ms := 6) (pc := 205) (aL := [xR 0 (x1), xI (xs (x4 + (1 : Int32)).toNatClampNeg), xR 64 (x3)]) (K := []) C cs_L_72 (m_L_exit l hfl c41 : x_M l _ _ _ _ (.inl (some (xI v42))) _ 1 6) ⟨by decide, by decide, by show _ + 1 ≤ 601024; omega, by show _ + 6 ≤ 7293034; omega⟩ rfl (Nat.le_of_ble_eq_true rfl) (d_L_law 74 rfl) ?_
              refine x_istore (pc := 208) (L2 := [(5, xI (v42)), (0, xA (b)), (1, xR 0 (x1)), (2, xR 32 (x2)), (3, xR 64 (x3)), (4, xI (x4))]) C (d_L_law 75 rfl) (by decide) rfl ?_
              refine x_aload_n (pc := 210) C (d_L_law 76 rfl) rfl 3 rfl ?_
              refine x_aload_n (pc := 211) C (d_L_law 77 rfl) rfl 1 rfl ?_
              refine x_iload (pc := 212) C (d_L_law 78 rfl) 5 rfl ?_
              refine x_iconst (pc := 214) (v := 1) C (by decide) (d_L_law 79 rfl) ?_
              refine x_iadd (pc := 215) C (d_L_law 80 rfl) ?_
              by_cases b44 : x_in (x4 + (1 : Int32)) N
              · rw [if_pos b44] at h
                refine x_sld (pc := 216) C hX hbl (Nat.not_le.mpr hbl) (x_in_n b44) (d_L_law 81 rfl) ?_
                cases c46 : x2 with
                | none => rw [c46] at h; cases h
                | some i45 =>
                  rw [c46] at h
                  dsimp only at h
                  cases c47 : f_M_exit i45 (xs (x4 + (1 : Int32)).toNatClampNeg) st43 with
                  | none => rw [c47] at h; cases h
                  | some w59 =>
                    obtain ⟨v48, st49⟩ := w59
                    rw [c47] at h
                    dsimp only at h
                    refine x_callV (mc := 0) (ms := 0) (pc := 217) (bL := [xI (xs (x4 + (1 : Int32)).toNatClampNeg)]) (K := []) C cs_L_74 (m_M_exit l c47 : x_M l _ _ _ _ (.inl (some (xI v48))) _ 0 0) ⟨by decide, by decide, by show _ + 0 ≤ 601024; omega, by show _ + 0 ≤ 7293034; omega⟩ rfl (Nat.le_of_ble_eq_true rfl) (d_L_law 82 rfl) ?_
                    refine x_istore (pc := 220) (L2 := [(6, xI (v48)), (5, xI (v42)), (0, xA (b)), (1, xR 0 (x1)), (2, xR 32 (some (i45))), (3, xR 64 (x3)), (4, xI (x4))]) C (d_L_law 83 rfl) (by decide) rfl ?_
                    refine x_aload_n (pc := 222) C (d_L_law 84 rfl) rfl 4 rfl ?_
                    cases c50 : f_M_thrown i45 st49 with
                    | none => rw [c50] at h; cases h
                    | some v51 =>
                      rw [c50] at h
                      dsimp only at h
                      refine x_callV (mc := 0) (ms := 0) (pc := 223) (bL := []) (K := []) C cs_L_69 (m_M_thrown l c50 : x_M l _ _ _ _ (.inl (some (xI v51))) _ 0 0) ⟨by decide, by decide, by show _ + 0 ≤ 601024; omega, by show _ + 0 ≤ 7293034; omega⟩ rfl (Nat.le_of_ble_eq_true rfl) (d_L_law 85 rfl) ?_
                      refine x_iload (pc := 226) C (d_L_law 86 rfl) 1 rfl ?_
                      refine x_icmp_eq (pc := 228) (tgt := 233) C (d_L_law 87 rfl) (by decide) (fun c52 => ?_) (fun c52 => ?_)
                      · rw [if_pos c52] at h
                        refine x_iload (pc := 233) C (d_L_law 90 rfl) 1 rfl ?_
                        refine x_if_ne (pc := 235) (tgt := 250) C (d_L_law 91 rfl) (by decide) (fun c53 => ?_) (fun c53 => ?_)
                        · rw [if_neg c53] at h
                          refine x_goto (pc := 250) (tgt := 1199) C (d_L_law 101 rfl) (by decide) ?_
                          refine x_iinc (pc := 1199) (v := x4 + 6) (L2 := [(4, xI (x4 + 6)), (6, xI (v48)), (5, xI (v42)), (0, xA (b)), (1, xR 0 (x1)), (2, xR 32 (some (i45))), (3, xR 64 (x3))]) C (d_L_law 752 rfl) 6 rfl rfl (by decide) rfl ?_
                          refine x_goto (pc := 1202) (tgt := 23) C (d_L_law 753 rfl) (by decide) ?_
                          exact x_sub [3, 4, 5, 6, 0] rfl (ih _ _ _ _ _ _ _ (by omega) (by omega) h)
                        · rw [if_pos c53] at h
                          refine x_aload_n (pc := 238) C (d_L_law 92 rfl) rfl 5 rfl ?_
                          refine x_iconst (pc := 239) (v := 0) C (by decide) (d_L_law 93 rfl) ?_
                          cases c55 : x3 with
                          | none => rw [c55] at h; cases h
                          | some i54 =>
                            rw [c55] at h
                            dsimp only at h
                            by_cases b56 : x_in 0 1
                            · rw [if_pos b56] at h
                              refine x_lald (pc := 240) C ar_64 b56 (d_L_law 94 rfl) ?_
                              refine x_iload (pc := 241) C (d_L_law 95 rfl) 0 rfl ?_
                              refine x_i2l (pc := 243) C (d_L_law 96 rfl) ?_
                              refine x_lcmp (pc := 244) C (d_L_law 97 rfl) ?_
                              refine x_if_eq (pc := 245) (tgt := 250) C (d_L_law 98 rfl) (by decide) (fun c57 => ?_) (fun c57 => ?_)
                              · rw [if_pos c57] at h
                                refine x_goto (pc := 250) (tgt := 1199) C (d_L_law 101 rfl) (by decide) ?_
                                refine x_iinc (pc := 1199) (v := x4 + 6) (L2 := [(4, xI (x4 + 6)), (6, xI (v48)), (5, xI (v42)), (0, xA (b)), (1, xR 0 (x1)), (2, xR 32 (some (i45))), (3, xR 64 (some (i54)))]) C (d_L_law 752 rfl) 6 rfl rfl (by decide) rfl ?_
                                refine x_goto (pc := 1202) (tgt := 23) C (d_L_law 753 rfl) (by decide) ?_
                                exact x_sub [3, 4, 5, 6, 0] rfl (ih _ _ _ _ _ _ _ (by omega) (by omega) h)
                              · rw [if_neg c57] at h
                                refine x_iconst (pc := 248) (v := 0) C (by decide) (d_L_law 99 rfl) ?_
                                exact absurd (Option.some.inj h) (by decide)
                            · rw [if_neg b56] at h; cases h
                      · rw [if_neg c52] at h
                        refine x_iconst (pc := 231) (v := 0) C (by decide) (d_L_law 88 rfl) ?_
                        exact absurd (Option.some.inj h) (by decide)
              · rw [if_neg b44] at h; cases h
          · rw [if_neg b40] at h; cases h
        rw [if_neg c39] at h
        by_cases c61 : ((xs x4.toNatClampNeg) &&& (31 : Int32)) = 3
        · rw [if_pos c61] at h
          refine x_tsw (pc := 40) (v := 3) (tgt := 253) C (d_L_law 24 rfl) c61 (by decide) (by decide) rfl (by decide) ?_
          refine x_aload_n (pc := 253) C (d_L_law 102 rfl) rfl 1 rfl ?_
          refine x_aload_n (pc := 254) C (d_L_law 103 rfl) rfl 0 rfl ?_
          refine x_iload (pc := 255) C (d_L_law 104 rfl) 4 rfl ?_
          refine x_iconst (pc := 257) (v := 1) C (by decide) (d_L_law 105 rfl) ?_
          refine x_iadd (pc := 258) C (d_L_law 106 rfl) ?_
          by_cases b62 : x_in (x4 + (1 : Int32)) N
          · rw [if_pos b62] at h
            refine x_sld (pc := 259) C hX hbl (Nat.not_le.mpr hbl) (x_in_n b62) (d_L_law 107 rfl) ?_
            refine x_aload_n (pc := 260) C (d_L_law 108 rfl) rfl 0 rfl ?_
            refine x_iload (pc := 261) C (d_L_law 109 rfl) 4 rfl ?_
            refine x_iconst (pc := 263) (v := 2) C (by decide) (d_L_law 110 rfl) ?_
            refine x_iadd (pc := 264) C (d_L_law 111 rfl) ?_
            by_cases b63 : x_in (x4 + (2 : Int32)) N
            · rw [if_pos b63] at h
              refine x_sld (pc := 265) C hX hbl (Nat.not_le.mpr hbl) (x_in_n b63) (d_L_law 112 rfl) ?_
              refine x_aload_n (pc := 266) C (d_L_law 113 rfl) rfl 0 rfl ?_
              refine x_iload (pc := 267) C (d_L_law 114 rfl) 4 rfl ?_
              refine x_iconst (pc := 269) (v := 3) C (by decide) (d_L_law 115 rfl) ?_
              refine x_iadd (pc := 270) C (d_L_law 116 rfl) ?_
              by_cases b64 : x_in (x4 + (3 : Int32)) N
              · rw [if_pos b64] at h
                refine x_sld (pc := 271) C hX hbl (Nat.not_le.mpr hbl) (x_in_n b64) (d_L_law 117 rfl) ?_
                refine x_aload_n (pc := 272) C (d_L_law 118 rfl) rfl 3 rfl ?_
                cases c65 : f_L_open (x1) (xs (x4 + (1 : Int32)).toNatClampNeg) (xs (x4 + (2 : Int32)).toNatClampNeg) (xs (x4 + (3 : Int32)).toNatClampNeg) (x3) st with
                | none => rw [c65] at h; cases h
                | some w86 =>
                  obtain ⟨v66, st67⟩ := w86
                  rw [c65] at h
                  dsimp only at h
                  refine x_callS (mc := 1) (ms := 6) (pc := 273) (aL := [xR 0 (x1), xI (xs (x4 + (1 : Int32)).toNatClampNeg), xI (xs (x4 + (2 : Int32)).toNatClampNeg), xI (xs (x4 + (3 : Int32)).toNatClampNeg), xR 64 (x3)]) (K := []) C cs_L_75 (m_L_open l hfl c65 : x_M l _ _ _ _ (.inl (some (xI v66))) _ 1 6) ⟨by decide, by decide, by show _ + 1 ≤ 601024; omega, by show _ + 6 ≤ 7293034; omega⟩ rfl (Nat.le_of_ble_eq_true rfl) (d_L_law 119 rfl) ?_
                  refine x_istore (pc := 276) (L2 := [(5, xI (v66)), (0, xA (b)), (1, xR 0 (x1)), (2, xR 32 (x2)), (3, xR 64 (x3)), (4, xI (x4))]) C (d_L_law 120 rfl) (by decide) rfl ?_
                  refine x_aload_n (pc := 278) C (d_L_law 121 rfl) rfl 3 rfl ?_
                  refine x_aload_n (pc := 279) C (d_L_law 122 rfl) rfl 1 rfl ?_
                  refine x_iload (pc := 280) C (d_L_law 123 rfl) 5 rfl ?_
                  refine x_iconst (pc := 282) (v := 1) C (by decide) (d_L_law 124 rfl) ?_
                  refine x_iadd (pc := 283) C (d_L_law 125 rfl) ?_
                  by_cases b68 : x_in (x4 + (1 : Int32)) N
                  · rw [if_pos b68] at h
                    refine x_sld (pc := 284) C hX hbl (Nat.not_le.mpr hbl) (x_in_n b68) (d_L_law 126 rfl) ?_
                    refine x_aload_n (pc := 285) C (d_L_law 127 rfl) rfl 1 rfl ?_
                    refine x_iload (pc := 286) C (d_L_law 128 rfl) 5 rfl ?_
                    refine x_iconst (pc := 288) (v := 2) C (by decide) (d_L_law 129 rfl) ?_
                    refine x_iadd (pc := 289) C (d_L_law 130 rfl) ?_
                    by_cases b69 : x_in (x4 + (2 : Int32)) N
                    · rw [if_pos b69] at h
                      refine x_sld (pc := 290) C hX hbl (Nat.not_le.mpr hbl) (x_in_n b69) (d_L_law 131 rfl) ?_
                      refine x_aload_n (pc := 291) C (d_L_law 132 rfl) rfl 1 rfl ?_
                      refine x_iload (pc := 292) C (d_L_law 133 rfl) 5 rfl ?_
                      refine x_iconst (pc := 294) (v := 3) C (by decide) (d_L_law 134 rfl) ?_
                      refine x_iadd (pc := 295) C (d_L_law 135 rfl) ?_
                      by_cases b70 : x_in (x4 + (3 : Int32)) N
                      · rw [if_pos b70] at h
                        refine x_sld (pc := 296) C hX hbl (Nat.not_le.mpr hbl) (x_in_n b70) (d_L_law 136 rfl) ?_
                        cases c72 : x2 with
                        | none => rw [c72] at h; cases h
                        | some i71 =>
                          rw [c72] at h
                          dsimp only at h
                          cases c73 : f_M_open i71 (xs (x4 + (1 : Int32)).toNatClampNeg) (xs (x4 + (2 : Int32)).toNatClampNeg) (xs (x4 + (3 : Int32)).toNatClampNeg) st67 with
                          | none => rw [c73] at h; cases h
                          | some w85 =>
                            obtain ⟨v74, st75⟩ := w85
                            rw [c73] at h
                            dsimp only at h
                            refine x_callV (mc := 0) (ms := 0) (pc := 297) (bL := [xI (xs (x4 + (1 : Int32)).toNatClampNeg), xI (xs (x4 + (2 : Int32)).toNatClampNeg), xI (xs (x4 + (3 : Int32)).toNatClampNeg)]) (K := []) C cs_L_78 (m_M_open l c73 : x_M l _ _ _ _ (.inl (some (xI v74))) _ 0 0) ⟨by decide, by decide, by show _ + 0 ≤ 601024; omega, by show _ + 0 ≤ 7293034; omega⟩ rfl (Nat.le_of_ble_eq_true rfl) (d_L_law 137 rfl) ?_
                            refine x_istore (pc := 300) (L2 := [(6, xI (v74)), (5, xI (v66)), (0, xA (b)), (1, xR 0 (x1)), (2, xR 32 (some (i71))), (3, xR 64 (x3)), (4, xI (x4))]) C (d_L_law 138 rfl) (by decide) rfl ?_
                            refine x_aload_n (pc := 302) C (d_L_law 139 rfl) rfl 4 rfl ?_
                            cases c76 : f_M_thrown i71 st75 with
                            | none => rw [c76] at h; cases h
                            | some v77 =>
                              rw [c76] at h
                              dsimp only at h
                              refine x_callV (mc := 0) (ms := 0) (pc := 303) (bL := []) (K := []) C cs_L_69 (m_M_thrown l c76 : x_M l _ _ _ _ (.inl (some (xI v77))) _ 0 0) ⟨by decide, by decide, by show _ + 0 ≤ 601024; omega, by show _ + 0 ≤ 7293034; omega⟩ rfl (Nat.le_of_ble_eq_true rfl) (d_L_law 140 rfl) ?_
                              refine x_iload (pc := 306) C (d_L_law 141 rfl) 1 rfl ?_
                              refine x_icmp_eq (pc := 308) (tgt := 313) C (d_L_law 142 rfl) (by decide) (fun c78 => ?_) (fun c78 => ?_)
                              · rw [if_pos c78] at h
                                refine x_iload (pc := 313) C (d_L_law 145 rfl) 1 rfl ?_
                                refine x_if_ne (pc := 315) (tgt := 330) C (d_L_law 146 rfl) (by decide) (fun c79 => ?_) (fun c79 => ?_)
                                · rw [if_neg c79] at h
                                  refine x_goto (pc := 330) (tgt := 1199) C (d_L_law 156 rfl) (by decide) ?_
                                  refine x_iinc (pc := 1199) (v := x4 + 6) (L2 := [(4, xI (x4 + 6)), (6, xI (v74)), (5, xI (v66)), (0, xA (b)), (1, xR 0 (x1)), (2, xR 32 (some (i71))), (3, xR 64 (x3))]) C (d_L_law 752 rfl) 6 rfl rfl (by decide) rfl ?_
                                  refine x_goto (pc := 1202) (tgt := 23) C (d_L_law 753 rfl) (by decide) ?_
                                  exact x_sub [3, 4, 5, 6, 0] rfl (ih _ _ _ _ _ _ _ (by omega) (by omega) h)
                                · rw [if_pos c79] at h
                                  refine x_aload_n (pc := 318) C (d_L_law 147 rfl) rfl 5 rfl ?_
                                  refine x_iconst (pc := 319) (v := 0) C (by decide) (d_L_law 148 rfl) ?_
                                  cases c81 : x3 with
                                  | none => rw [c81] at h; cases h
                                  | some i80 =>
                                    rw [c81] at h
                                    dsimp only at h
                                    by_cases b82 : x_in 0 1
                                    · rw [if_pos b82] at h
                                      refine x_lald (pc := 320) C ar_64 b82 (d_L_law 149 rfl) ?_
                                      refine x_iload (pc := 321) C (d_L_law 150 rfl) 0 rfl ?_
                                      refine x_i2l (pc := 323) C (d_L_law 151 rfl) ?_
                                      refine x_lcmp (pc := 324) C (d_L_law 152 rfl) ?_
                                      refine x_if_eq (pc := 325) (tgt := 330) C (d_L_law 153 rfl) (by decide) (fun c83 => ?_) (fun c83 => ?_)
                                      · rw [if_pos c83] at h
                                        refine x_goto (pc := 330) (tgt := 1199) C (d_L_law 156 rfl) (by decide) ?_
                                        refine x_iinc (pc := 1199) (v := x4 + 6) (L2 := [(4, xI (x4 + 6)), (6, xI (v74)), (5, xI (v66)), (0, xA (b)), (1, xR 0 (x1)), (2, xR 32 (some (i71))), (3, xR 64 (some (i80)))]) C (d_L_law 752 rfl) 6 rfl rfl (by decide) rfl ?_
                                        refine x_goto (pc := 1202) (tgt := 23) C (d_L_law 753 rfl) (by decide) ?_
                                        exact x_sub [3, 4, 5, 6, 0] rfl (ih _ _ _ _ _ _ _ (by omega) (by omega) h)
                                      · rw [if_neg c83] at h
                                        refine x_iconst (pc := 328) (v := 0) C (by decide) (d_L_law 154 rfl) ?_
                                        exact absurd (Option.some.inj h) (by decide)
                                    · rw [if_neg b82] at h; cases h
                              · rw [if_neg c78] at h
                                refine x_iconst (pc := 311) (v := 0) C (by decide) (d_L_law 143 rfl) ?_
                                exact absurd (Option.some.inj h) (by decide)
                      · rw [if_neg b70] at h; cases h
                    · rw [if_neg b69] at h; cases h
                  · rw [if_neg b68] at h; cases h
              · rw [if_neg b64] at h; cases h
            · rw [if_neg b63] at h; cases h
          · rw [if_neg b62] at h; cases h
        rw [if_neg c61] at h
        by_cases c87 : ((xs x4.toNatClampNeg) &&& (31 : Int32)) = 4
        · rw [if_pos c87] at h
          refine x_tsw (pc := 40) (v := 4) (tgt := 333) C (d_L_law 24 rfl) c87 (by decide) (by decide) rfl (by decide) ?_
          refine x_aload_n (pc := 333) C (d_L_law 157 rfl) rfl 1 rfl ?_
          refine x_aload_n (pc := 334) C (d_L_law 158 rfl) rfl 0 rfl ?_
          refine x_iload (pc := 335) C (d_L_law 159 rfl) 4 rfl ?_
          refine x_iconst (pc := 337) (v := 1) C (by decide) (d_L_law 160 rfl) ?_
          refine x_iadd (pc := 338) C (d_L_law 161 rfl) ?_
          by_cases b88 : x_in (x4 + (1 : Int32)) N
          · rw [if_pos b88] at h
            refine x_sld (pc := 339) C hX hbl (Nat.not_le.mpr hbl) (x_in_n b88) (d_L_law 162 rfl) ?_
            refine x_aload_n (pc := 340) C (d_L_law 163 rfl) rfl 3 rfl ?_
            cases c89 : f_L_pipe (x1) (xs (x4 + (1 : Int32)).toNatClampNeg) (x3) st with
            | none => rw [c89] at h; cases h
            | some w108 =>
              obtain ⟨v90, st91⟩ := w108
              rw [c89] at h
              dsimp only at h
              refine x_callS (mc := 1) (ms := 6) (pc := 341) (aL := [xR 0 (x1), xI (xs (x4 + (1 : Int32)).toNatClampNeg), xR 64 (x3)]) (K := []) C cs_L_79 (m_L_pipe l hfl c89 : x_M l _ _ _ _ (.inl (some (xI v90))) _ 1 6) ⟨by decide, by decide, by show _ + 1 ≤ 601024; omega, by show _ + 6 ≤ 7293034; omega⟩ rfl (Nat.le_of_ble_eq_true rfl) (d_L_law 164 rfl) ?_
              refine x_istore (pc := 344) (L2 := [(5, xI (v90)), (0, xA (b)), (1, xR 0 (x1)), (2, xR 32 (x2)), (3, xR 64 (x3)), (4, xI (x4))]) C (d_L_law 165 rfl) (by decide) rfl ?_
              refine x_aload_n (pc := 346) C (d_L_law 166 rfl) rfl 3 rfl ?_
              refine x_aload_n (pc := 347) C (d_L_law 167 rfl) rfl 1 rfl ?_
              refine x_iload (pc := 348) C (d_L_law 168 rfl) 5 rfl ?_
              refine x_iconst (pc := 350) (v := 1) C (by decide) (d_L_law 169 rfl) ?_
              refine x_iadd (pc := 351) C (d_L_law 170 rfl) ?_
              by_cases b92 : x_in (x4 + (1 : Int32)) N
              · rw [if_pos b92] at h
                refine x_sld (pc := 352) C hX hbl (Nat.not_le.mpr hbl) (x_in_n b92) (d_L_law 171 rfl) ?_
                cases c94 : x2 with
                | none => rw [c94] at h; cases h
                | some i93 =>
                  rw [c94] at h
                  dsimp only at h
                  cases c95 : f_M_pipe i93 (xs (x4 + (1 : Int32)).toNatClampNeg) st91 with
                  | none => rw [c95] at h; cases h
                  | some w107 =>
                    obtain ⟨v96, st97⟩ := w107
                    rw [c95] at h
                    dsimp only at h
                    refine x_callV (mc := 0) (ms := 0) (pc := 353) (bL := [xI (xs (x4 + (1 : Int32)).toNatClampNeg)]) (K := []) C cs_L_81 (m_M_pipe l c95 : x_M l _ _ _ _ (.inl (some (xI v96))) _ 0 0) ⟨by decide, by decide, by show _ + 0 ≤ 601024; omega, by show _ + 0 ≤ 7293034; omega⟩ rfl (Nat.le_of_ble_eq_true rfl) (d_L_law 172 rfl) ?_
                    refine x_istore (pc := 356) (L2 := [(6, xI (v96)), (5, xI (v90)), (0, xA (b)), (1, xR 0 (x1)), (2, xR 32 (some (i93))), (3, xR 64 (x3)), (4, xI (x4))]) C (d_L_law 173 rfl) (by decide) rfl ?_
                    refine x_aload_n (pc := 358) C (d_L_law 174 rfl) rfl 4 rfl ?_
                    cases c98 : f_M_thrown i93 st97 with
                    | none => rw [c98] at h; cases h
                    | some v99 =>
                      rw [c98] at h
                      dsimp only at h
                      refine x_callV (mc := 0) (ms := 0) (pc := 359) (bL := []) (K := []) C cs_L_69 (m_M_thrown l c98 : x_M l _ _ _ _ (.inl (some (xI v99))) _ 0 0) ⟨by decide, by decide, by show _ + 0 ≤ 601024; omega, by show _ + 0 ≤ 7293034; omega⟩ rfl (Nat.le_of_ble_eq_true rfl) (d_L_law 175 rfl) ?_
                      refine x_iload (pc := 362) C (d_L_law 176 rfl) 1 rfl ?_
                      refine x_icmp_eq (pc := 364) (tgt := 369) C (d_L_law 177 rfl) (by decide) (fun c100 => ?_) (fun c100 => ?_)
                      · rw [if_pos c100] at h
                        refine x_iload (pc := 369) C (d_L_law 180 rfl) 1 rfl ?_
                        refine x_if_ne (pc := 371) (tgt := 386) C (d_L_law 181 rfl) (by decide) (fun c101 => ?_) (fun c101 => ?_)
                        · rw [if_neg c101] at h
                          refine x_goto (pc := 386) (tgt := 1199) C (d_L_law 191 rfl) (by decide) ?_
                          refine x_iinc (pc := 1199) (v := x4 + 6) (L2 := [(4, xI (x4 + 6)), (6, xI (v96)), (5, xI (v90)), (0, xA (b)), (1, xR 0 (x1)), (2, xR 32 (some (i93))), (3, xR 64 (x3))]) C (d_L_law 752 rfl) 6 rfl rfl (by decide) rfl ?_
                          refine x_goto (pc := 1202) (tgt := 23) C (d_L_law 753 rfl) (by decide) ?_
                          exact x_sub [3, 4, 5, 6, 0] rfl (ih _ _ _ _ _ _ _ (by omega) (by omega) h)
                        · rw [if_pos c101] at h
                          refine x_aload_n (pc := 374) C (d_L_law 182 rfl) rfl 5 rfl ?_
                          refine x_iconst (pc := 375) (v := 0) C (by decide) (d_L_law 183 rfl) ?_
                          cases c103 : x3 with
                          | none => rw [c103] at h; cases h
                          | some i102 =>
                            rw [c103] at h
                            dsimp only at h
                            by_cases b104 : x_in 0 1
                            · rw [if_pos b104] at h
                              refine x_lald (pc := 376) C ar_64 b104 (d_L_law 184 rfl) ?_
                              refine x_iload (pc := 377) C (d_L_law 185 rfl) 0 rfl ?_
                              refine x_i2l (pc := 379) C (d_L_law 186 rfl) ?_
                              refine x_lcmp (pc := 380) C (d_L_law 187 rfl) ?_
                              refine x_if_eq (pc := 381) (tgt := 386) C (d_L_law 188 rfl) (by decide) (fun c105 => ?_) (fun c105 => ?_)
                              · rw [if_pos c105] at h
                                refine x_goto (pc := 386) (tgt := 1199) C (d_L_law 191 rfl) (by decide) ?_
                                refine x_iinc (pc := 1199) (v := x4 + 6) (L2 := [(4, xI (x4 + 6)), (6, xI (v96)), (5, xI (v90)), (0, xA (b)), (1, xR 0 (x1)), (2, xR 32 (some (i93))), (3, xR 64 (some (i102)))]) C (d_L_law 752 rfl) 6 rfl rfl (by decide) rfl ?_
                                refine x_goto (pc := 1202) (tgt := 23) C (d_L_law 753 rfl) (by decide) ?_
                                exact x_sub [3, 4, 5, 6, 0] rfl (ih _ _ _ _ _ _ _ (by omega) (by omega) h)
                              · rw [if_neg c105] at h
                                refine x_iconst (pc := 384) (v := 0) C (by decide) (d_L_law 189 rfl) ?_
                                exact absurd (Option.some.inj h) (by decide)
                            · rw [if_neg b104] at h; cases h
                      · rw [if_neg c100] at h
                        refine x_iconst (pc := 367) (v := 0) C (by decide) (d_L_law 178 rfl) ?_
                        exact absurd (Option.some.inj h) (by decide)
              · rw [if_neg b92] at h; cases h
          · rw [if_neg b88] at h; cases h
        rw [if_neg c87] at h
        by_cases c109 : ((xs x4.toNatClampNeg) &&& (31 : Int32)) = 5
        · rw [if_pos c109] at h
          refine x_tsw (pc := 40) (v := 5) (tgt := 389) C (d_L_law 24 rfl) c109 (by decide) (by decide) rfl (by decide) ?_
          refine x_aload_n (pc := 389) C (d_L_law 192 rfl) rfl 1 rfl ?_
          refine x_aload_n (pc := 390) C (d_L_law 193 rfl) rfl 0 rfl ?_
          refine x_iload (pc := 391) C (d_L_law 194 rfl) 4 rfl ?_
          refine x_iconst (pc := 393) (v := 1) C (by decide) (d_L_law 195 rfl) ?_
          refine x_iadd (pc := 394) C (d_L_law 196 rfl) ?_
          by_cases b110 : x_in (x4 + (1 : Int32)) N
          · rw [if_pos b110] at h
            refine x_sld (pc := 395) C hX hbl (Nat.not_le.mpr hbl) (x_in_n b110) (d_L_law 197 rfl) ?_
            refine x_aload_n (pc := 396) C (d_L_law 198 rfl) rfl 0 rfl ?_
            refine x_iload (pc := 397) C (d_L_law 199 rfl) 4 rfl ?_
            refine x_iconst (pc := 399) (v := 2) C (by decide) (d_L_law 200 rfl) ?_
            refine x_iadd (pc := 400) C (d_L_law 201 rfl) ?_
            by_cases b111 : x_in (x4 + (2 : Int32)) N
            · rw [if_pos b111] at h
              refine x_sld (pc := 401) C hX hbl (Nat.not_le.mpr hbl) (x_in_n b111) (d_L_law 202 rfl) ?_
              refine x_aload_n (pc := 402) C (d_L_law 203 rfl) rfl 0 rfl ?_
              refine x_iload (pc := 403) C (d_L_law 204 rfl) 4 rfl ?_
              refine x_iconst (pc := 405) (v := 3) C (by decide) (d_L_law 205 rfl) ?_
              refine x_iadd (pc := 406) C (d_L_law 206 rfl) ?_
              by_cases b112 : x_in (x4 + (3 : Int32)) N
              · rw [if_pos b112] at h
                refine x_sld (pc := 407) C hX hbl (Nat.not_le.mpr hbl) (x_in_n b112) (d_L_law 207 rfl) ?_
                refine x_aload_n (pc := 408) C (d_L_law 208 rfl) rfl 3 rfl ?_
                cases c113 : f_L_read (x1) (xs (x4 + (1 : Int32)).toNatClampNeg) (xs (x4 + (2 : Int32)).toNatClampNeg) (xs (x4 + (3 : Int32)).toNatClampNeg) (x3) st with
                | none => rw [c113] at h; cases h
                | some w134 =>
                  obtain ⟨v114, st115⟩ := w134
                  rw [c113] at h
                  dsimp only at h
                  refine x_callS (mc := 1) (ms := 6) (pc := 409) (aL := [xR 0 (x1), xI (xs (x4 + (1 : Int32)).toNatClampNeg), xI (xs (x4 + (2 : Int32)).toNatClampNeg), xI (xs (x4 + (3 : Int32)).toNatClampNeg), xR 64 (x3)]) (K := []) C cs_L_82 (m_L_read l hfl c113 : x_M l _ _ _ _ (.inl (some (xI v114))) _ 1 6) ⟨by decide, by decide, by show _ + 1 ≤ 601024; omega, by show _ + 6 ≤ 7293034; omega⟩ rfl (Nat.le_of_ble_eq_true rfl) (d_L_law 209 rfl) ?_
                  refine x_istore (pc := 412) (L2 := [(5, xI (v114)), (0, xA (b)), (1, xR 0 (x1)), (2, xR 32 (x2)), (3, xR 64 (x3)), (4, xI (x4))]) C (d_L_law 210 rfl) (by decide) rfl ?_
                  refine x_aload_n (pc := 414) C (d_L_law 211 rfl) rfl 3 rfl ?_
                  refine x_aload_n (pc := 415) C (d_L_law 212 rfl) rfl 1 rfl ?_
                  refine x_iload (pc := 416) C (d_L_law 213 rfl) 5 rfl ?_
                  refine x_iconst (pc := 418) (v := 1) C (by decide) (d_L_law 214 rfl) ?_
                  refine x_iadd (pc := 419) C (d_L_law 215 rfl) ?_
                  by_cases b116 : x_in (x4 + (1 : Int32)) N
                  · rw [if_pos b116] at h
                    refine x_sld (pc := 420) C hX hbl (Nat.not_le.mpr hbl) (x_in_n b116) (d_L_law 216 rfl) ?_
                    refine x_aload_n (pc := 421) C (d_L_law 217 rfl) rfl 1 rfl ?_
                    refine x_iload (pc := 422) C (d_L_law 218 rfl) 5 rfl ?_
                    refine x_iconst (pc := 424) (v := 2) C (by decide) (d_L_law 219 rfl) ?_
                    refine x_iadd (pc := 425) C (d_L_law 220 rfl) ?_
                    by_cases b117 : x_in (x4 + (2 : Int32)) N
                    · rw [if_pos b117] at h
                      refine x_sld (pc := 426) C hX hbl (Nat.not_le.mpr hbl) (x_in_n b117) (d_L_law 221 rfl) ?_
                      refine x_aload_n (pc := 427) C (d_L_law 222 rfl) rfl 1 rfl ?_
                      refine x_iload (pc := 428) C (d_L_law 223 rfl) 5 rfl ?_
                      refine x_iconst (pc := 430) (v := 3) C (by decide) (d_L_law 224 rfl) ?_
                      refine x_iadd (pc := 431) C (d_L_law 225 rfl) ?_
                      by_cases b118 : x_in (x4 + (3 : Int32)) N
                      · rw [if_pos b118] at h
                        refine x_sld (pc := 432) C hX hbl (Nat.not_le.mpr hbl) (x_in_n b118) (d_L_law 226 rfl) ?_
                        cases c120 : x2 with
                        | none => rw [c120] at h; cases h
                        | some i119 =>
                          rw [c120] at h
                          dsimp only at h
                          cases c121 : f_M_read i119 (xs (x4 + (1 : Int32)).toNatClampNeg) (xs (x4 + (2 : Int32)).toNatClampNeg) (xs (x4 + (3 : Int32)).toNatClampNeg) st115 with
                          | none => rw [c121] at h; cases h
                          | some w133 =>
                            obtain ⟨v122, st123⟩ := w133
                            rw [c121] at h
                            dsimp only at h
                            refine x_callV (mc := 0) (ms := 0) (pc := 433) (bL := [xI (xs (x4 + (1 : Int32)).toNatClampNeg), xI (xs (x4 + (2 : Int32)).toNatClampNeg), xI (xs (x4 + (3 : Int32)).toNatClampNeg)]) (K := []) C cs_L_84 (m_M_read l c121 : x_M l _ _ _ _ (.inl (some (xI v122))) _ 0 0) ⟨by decide, by decide, by show _ + 0 ≤ 601024; omega, by show _ + 0 ≤ 7293034; omega⟩ rfl (Nat.le_of_ble_eq_true rfl) (d_L_law 227 rfl) ?_
                            refine x_istore (pc := 436) (L2 := [(6, xI (v122)), (5, xI (v114)), (0, xA (b)), (1, xR 0 (x1)), (2, xR 32 (some (i119))), (3, xR 64 (x3)), (4, xI (x4))]) C (d_L_law 228 rfl) (by decide) rfl ?_
                            refine x_aload_n (pc := 438) C (d_L_law 229 rfl) rfl 4 rfl ?_
                            cases c124 : f_M_thrown i119 st123 with
                            | none => rw [c124] at h; cases h
                            | some v125 =>
                              rw [c124] at h
                              dsimp only at h
                              refine x_callV (mc := 0) (ms := 0) (pc := 439) (bL := []) (K := []) C cs_L_69 (m_M_thrown l c124 : x_M l _ _ _ _ (.inl (some (xI v125))) _ 0 0) ⟨by decide, by decide, by show _ + 0 ≤ 601024; omega, by show _ + 0 ≤ 7293034; omega⟩ rfl (Nat.le_of_ble_eq_true rfl) (d_L_law 230 rfl) ?_
                              refine x_iload (pc := 442) C (d_L_law 231 rfl) 1 rfl ?_
                              refine x_icmp_eq (pc := 444) (tgt := 449) C (d_L_law 232 rfl) (by decide) (fun c126 => ?_) (fun c126 => ?_)
                              · rw [if_pos c126] at h
                                refine x_iload (pc := 449) C (d_L_law 235 rfl) 1 rfl ?_
                                refine x_if_ne (pc := 451) (tgt := 466) C (d_L_law 236 rfl) (by decide) (fun c127 => ?_) (fun c127 => ?_)
                                · rw [if_neg c127] at h
                                  refine x_goto (pc := 466) (tgt := 1199) C (d_L_law 246 rfl) (by decide) ?_
                                  refine x_iinc (pc := 1199) (v := x4 + 6) (L2 := [(4, xI (x4 + 6)), (6, xI (v122)), (5, xI (v114)), (0, xA (b)), (1, xR 0 (x1)), (2, xR 32 (some (i119))), (3, xR 64 (x3))]) C (d_L_law 752 rfl) 6 rfl rfl (by decide) rfl ?_
                                  refine x_goto (pc := 1202) (tgt := 23) C (d_L_law 753 rfl) (by decide) ?_
                                  exact x_sub [3, 4, 5, 6, 0] rfl (ih _ _ _ _ _ _ _ (by omega) (by omega) h)
                                · rw [if_pos c127] at h
                                  refine x_aload_n (pc := 454) C (d_L_law 237 rfl) rfl 5 rfl ?_
                                  refine x_iconst (pc := 455) (v := 0) C (by decide) (d_L_law 238 rfl) ?_
                                  cases c129 : x3 with
                                  | none => rw [c129] at h; cases h
                                  | some i128 =>
                                    rw [c129] at h
                                    dsimp only at h
                                    by_cases b130 : x_in 0 1
                                    · rw [if_pos b130] at h
                                      refine x_lald (pc := 456) C ar_64 b130 (d_L_law 239 rfl) ?_
                                      refine x_iload (pc := 457) C (d_L_law 240 rfl) 0 rfl ?_
                                      refine x_i2l (pc := 459) C (d_L_law 241 rfl) ?_
                                      refine x_lcmp (pc := 460) C (d_L_law 242 rfl) ?_
                                      refine x_if_eq (pc := 461) (tgt := 466) C (d_L_law 243 rfl) (by decide) (fun c131 => ?_) (fun c131 => ?_)
                                      · rw [if_pos c131] at h
                                        refine x_goto (pc := 466) (tgt := 1199) C (d_L_law 246 rfl) (by decide) ?_
                                        refine x_iinc (pc := 1199) (v := x4 + 6) (L2 := [(4, xI (x4 + 6)), (6, xI (v122)), (5, xI (v114)), (0, xA (b)), (1, xR 0 (x1)), (2, xR 32 (some (i119))), (3, xR 64 (some (i128)))]) C (d_L_law 752 rfl) 6 rfl rfl (by decide) rfl ?_
                                        refine x_goto (pc := 1202) (tgt := 23) C (d_L_law 753 rfl) (by decide) ?_
                                        exact x_sub [3, 4, 5, 6, 0] rfl (ih _ _ _ _ _ _ _ (by omega) (by omega) h)
                                      · rw [if_neg c131] at h
                                        refine x_iconst (pc := 464) (v := 0) C (by decide) (d_L_law 244 rfl) ?_
                                        exact absurd (Option.some.inj h) (by decide)
                                    · rw [if_neg b130] at h; cases h
                              · rw [if_neg c126] at h
                                refine x_iconst (pc := 447) (v := 0) C (by decide) (d_L_law 233 rfl) ?_
                                exact absurd (Option.some.inj h) (by decide)
                      · rw [if_neg b118] at h; cases h
                    · rw [if_neg b117] at h; cases h
                  · rw [if_neg b116] at h; cases h
              · rw [if_neg b112] at h; cases h
            · rw [if_neg b111] at h; cases h
          · rw [if_neg b110] at h; cases h
        rw [if_neg c109] at h
        by_cases c135 : ((xs x4.toNatClampNeg) &&& (31 : Int32)) = 6
        · rw [if_pos c135] at h
          refine x_tsw (pc := 40) (v := 6) (tgt := 469) C (d_L_law 24 rfl) c135 (by decide) (by decide) rfl (by decide) ?_
          refine x_aload_n (pc := 469) C (d_L_law 247 rfl) rfl 1 rfl ?_
          refine x_aload_n (pc := 470) C (d_L_law 248 rfl) rfl 0 rfl ?_
          refine x_iload (pc := 471) C (d_L_law 249 rfl) 4 rfl ?_
          refine x_iconst (pc := 473) (v := 1) C (by decide) (d_L_law 250 rfl) ?_
          refine x_iadd (pc := 474) C (d_L_law 251 rfl) ?_
          by_cases b136 : x_in (x4 + (1 : Int32)) N
          · rw [if_pos b136] at h
            refine x_sld (pc := 475) C hX hbl (Nat.not_le.mpr hbl) (x_in_n b136) (d_L_law 252 rfl) ?_
            cases c138 : x1 with
            | none => rw [c138] at h; cases h
            | some i137 =>
              rw [c138] at h
              dsimp only at h
              cases c139 : f_D_given i137 (xs (x4 + (1 : Int32)).toNatClampNeg) st with
              | none => rw [c139] at h; cases h
              | some v140 =>
                rw [c139] at h
                dsimp only at h
                refine x_callV (mc := 0) (ms := 0) (pc := 476) (bL := [xI (xs (x4 + (1 : Int32)).toNatClampNeg)]) (K := []) C cs_L_85 (m_D_given l c139 : x_M l _ _ _ _ (.inl (some (xL v140))) _ 0 0) ⟨by decide, by decide, by show _ + 0 ≤ 601024; omega, by show _ + 0 ≤ 7293034; omega⟩ rfl (Nat.le_of_ble_eq_true rfl) (d_L_law 253 rfl) ?_
                refine x_aload_n (pc := 479) C (d_L_law 254 rfl) rfl 2 rfl ?_
                refine x_aload_n (pc := 480) C (d_L_law 255 rfl) rfl 0 rfl ?_
                refine x_iload (pc := 481) C (d_L_law 256 rfl) 4 rfl ?_
                refine x_iconst (pc := 483) (v := 1) C (by decide) (d_L_law 257 rfl) ?_
                refine x_iadd (pc := 484) C (d_L_law 258 rfl) ?_
                by_cases b141 : x_in (x4 + (1 : Int32)) N
                · rw [if_pos b141] at h
                  refine x_sld (pc := 485) C hX hbl (Nat.not_le.mpr hbl) (x_in_n b141) (d_L_law 259 rfl) ?_
                  cases c143 : x2 with
                  | none => rw [c143] at h; cases h
                  | some i142 =>
                    rw [c143] at h
                    dsimp only at h
                    cases c144 : f_M_given i142 (xs (x4 + (1 : Int32)).toNatClampNeg) st with
                    | none => rw [c144] at h; cases h
                    | some w148 =>
                      obtain ⟨v145, st146⟩ := w148
                      rw [c144] at h
                      dsimp only at h
                      refine x_callV (mc := 0) (ms := 0) (pc := 486) (bL := [xI (xs (x4 + (1 : Int32)).toNatClampNeg)]) (K := [xL (v140)]) C cs_L_89 (m_M_given l c144 : x_M l _ _ _ _ (.inl (some (xL v145))) _ 0 0) ⟨by decide, by decide, by show _ + 0 ≤ 601024; omega, by show _ + 0 ≤ 7293034; omega⟩ rfl (Nat.le_of_ble_eq_true rfl) (d_L_law 260 rfl) ?_
                      refine x_lcmp (pc := 489) C (d_L_law 261 rfl) ?_
                      refine x_if_eq (pc := 490) (tgt := 1199) C (d_L_law 262 rfl) (by decide) (fun c147 => ?_) (fun c147 => ?_)
                      · rw [if_pos c147] at h
                        refine x_iinc (pc := 1199) (v := x4 + 6) (L2 := [(4, xI (x4 + 6)), (0, xA (b)), (1, xR 0 (some (i137))), (2, xR 32 (some (i142))), (3, xR 64 (x3))]) C (d_L_law 752 rfl) 4 rfl rfl (by decide) rfl ?_
                        refine x_goto (pc := 1202) (tgt := 23) C (d_L_law 753 rfl) (by decide) ?_
                        exact x_sub [1, 2, 3, 4, 0] rfl (ih _ _ _ _ _ _ _ (by omega) (by omega) h)
                      · rw [if_neg c147] at h
                        refine x_iconst (pc := 493) (v := 0) C (by decide) (d_L_law 263 rfl) ?_
                        exact absurd (Option.some.inj h) (by decide)
                · rw [if_neg b141] at h; cases h
          · rw [if_neg b136] at h; cases h
        rw [if_neg c135] at h
        by_cases c150 : ((xs x4.toNatClampNeg) &&& (31 : Int32)) = 7
        · rw [if_pos c150] at h
          refine x_tsw (pc := 40) (v := 7) (tgt := 495) C (d_L_law 24 rfl) c150 (by decide) (by decide) rfl (by decide) ?_
          refine x_aload_n (pc := 495) C (d_L_law 265 rfl) rfl 1 rfl ?_
          refine x_aload_n (pc := 496) C (d_L_law 266 rfl) rfl 0 rfl ?_
          refine x_iload (pc := 497) C (d_L_law 267 rfl) 4 rfl ?_
          refine x_iconst (pc := 499) (v := 1) C (by decide) (d_L_law 268 rfl) ?_
          refine x_iadd (pc := 500) C (d_L_law 269 rfl) ?_
          by_cases b151 : x_in (x4 + (1 : Int32)) N
          · rw [if_pos b151] at h
            refine x_sld (pc := 501) C hX hbl (Nat.not_le.mpr hbl) (x_in_n b151) (d_L_law 270 rfl) ?_
            refine x_aload_n (pc := 502) C (d_L_law 271 rfl) rfl 0 rfl ?_
            refine x_iload (pc := 503) C (d_L_law 272 rfl) 4 rfl ?_
            refine x_iconst (pc := 505) (v := 2) C (by decide) (d_L_law 273 rfl) ?_
            refine x_iadd (pc := 506) C (d_L_law 274 rfl) ?_
            by_cases b152 : x_in (x4 + (2 : Int32)) N
            · rw [if_pos b152] at h
              refine x_sld (pc := 507) C hX hbl (Nat.not_le.mpr hbl) (x_in_n b152) (d_L_law 275 rfl) ?_
              refine x_aload_n (pc := 508) C (d_L_law 276 rfl) rfl 0 rfl ?_
              refine x_iload (pc := 509) C (d_L_law 277 rfl) 4 rfl ?_
              refine x_iconst (pc := 511) (v := 3) C (by decide) (d_L_law 278 rfl) ?_
              refine x_iadd (pc := 512) C (d_L_law 279 rfl) ?_
              by_cases b153 : x_in (x4 + (3 : Int32)) N
              · rw [if_pos b153] at h
                refine x_sld (pc := 513) C hX hbl (Nat.not_le.mpr hbl) (x_in_n b153) (d_L_law 280 rfl) ?_
                refine x_i2l (pc := 514) C (d_L_law 281 rfl) ?_
                refine x_bipush (pc := 515) (v := 32) C (by decide) (d_L_law 282 rfl) ?_
                refine x_lshl (pc := 517) C (d_L_law 283 rfl) ?_
                refine x_aload_n (pc := 518) C (d_L_law 284 rfl) rfl 0 rfl ?_
                refine x_iload (pc := 519) C (d_L_law 285 rfl) 4 rfl ?_
                refine x_iconst (pc := 521) (v := 4) C (by decide) (d_L_law 286 rfl) ?_
                refine x_iadd (pc := 522) C (d_L_law 287 rfl) ?_
                by_cases b154 : x_in (x4 + (4 : Int32)) N
                · rw [if_pos b154] at h
                  refine x_sld (pc := 523) C hX hbl (Nat.not_le.mpr hbl) (x_in_n b154) (d_L_law 288 rfl) ?_
                  refine x_i2l (pc := 524) C (d_L_law 289 rfl) ?_
                  refine x_ldc2 (pc := 525) C w_880 (d_L_law 290 rfl) ?_
                  refine x_land (pc := 528) C (d_L_law 291 rfl) ?_
                  refine x_lor (pc := 529) C (d_L_law 292 rfl) ?_
                  refine x_aload_n (pc := 530) C (d_L_law 293 rfl) rfl 0 rfl ?_
                  refine x_iload (pc := 531) C (d_L_law 294 rfl) 4 rfl ?_
                  refine x_iconst (pc := 533) (v := 5) C (by decide) (d_L_law 295 rfl) ?_
                  refine x_iadd (pc := 534) C (d_L_law 296 rfl) ?_
                  by_cases b155 : x_in (x4 + (5 : Int32)) N
                  · rw [if_pos b155] at h
                    refine x_sld (pc := 535) C hX hbl (Nat.not_le.mpr hbl) (x_in_n b155) (d_L_law 297 rfl) ?_
                    refine x_aload_n (pc := 536) C (d_L_law 298 rfl) rfl 3 rfl ?_
                    cases c156 : f_L_write (x1) (xs (x4 + (1 : Int32)).toNatClampNeg) (xs (x4 + (2 : Int32)).toNatClampNeg) ((((xs (x4 + (3 : Int32)).toNatClampNeg).toInt64) <<< ((32 : Int32).toInt64 &&& 63)) ||| (((xs (x4 + (4 : Int32)).toNatClampNeg).toInt64) &&& (4294967295 : Int64))) (xs (x4 + (5 : Int32)).toNatClampNeg) (x3) st with
                    | none => rw [c156] at h; cases h
                    | some w179 =>
                      obtain ⟨v157, st158⟩ := w179
                      rw [c156] at h
                      dsimp only at h
                      refine x_callS (mc := 1) (ms := 6) (pc := 537) (aL := [xR 0 (x1), xI (xs (x4 + (1 : Int32)).toNatClampNeg), xI (xs (x4 + (2 : Int32)).toNatClampNeg), xL ((((xs (x4 + (3 : Int32)).toNatClampNeg).toInt64) <<< ((32 : Int32).toInt64 &&& 63)) ||| (((xs (x4 + (4 : Int32)).toNatClampNeg).toInt64) &&& (4294967295 : Int64))), xI (xs (x4 + (5 : Int32)).toNatClampNeg), xR 64 (x3)]) (K := []) C cs_L_92 (m_L_write l hfl c156 : x_M l _ _ _ _ (.inl (some (xI v157))) _ 1 6) ⟨by decide, by decide, by show _ + 1 ≤ 601024; omega, by show _ + 6 ≤ 7293034; omega⟩ rfl (Nat.le_of_ble_eq_true rfl) (d_L_law 299 rfl) ?_
                      refine x_istore (pc := 540) (L2 := [(5, xI (v157)), (0, xA (b)), (1, xR 0 (x1)), (2, xR 32 (x2)), (3, xR 64 (x3)), (4, xI (x4))]) C (d_L_law 300 rfl) (by decide) rfl ?_
                      refine x_aload_n (pc := 542) C (d_L_law 301 rfl) rfl 3 rfl ?_
                      refine x_aload_n (pc := 543) C (d_L_law 302 rfl) rfl 1 rfl ?_
                      refine x_iload (pc := 544) C (d_L_law 303 rfl) 5 rfl ?_
                      refine x_iconst (pc := 546) (v := 1) C (by decide) (d_L_law 304 rfl) ?_
                      refine x_iadd (pc := 547) C (d_L_law 305 rfl) ?_
                      by_cases b159 : x_in (x4 + (1 : Int32)) N
                      · rw [if_pos b159] at h
                        refine x_sld (pc := 548) C hX hbl (Nat.not_le.mpr hbl) (x_in_n b159) (d_L_law 306 rfl) ?_
                        refine x_aload_n (pc := 549) C (d_L_law 307 rfl) rfl 1 rfl ?_
                        refine x_iload (pc := 550) C (d_L_law 308 rfl) 5 rfl ?_
                        refine x_iconst (pc := 552) (v := 2) C (by decide) (d_L_law 309 rfl) ?_
                        refine x_iadd (pc := 553) C (d_L_law 310 rfl) ?_
                        by_cases b160 : x_in (x4 + (2 : Int32)) N
                        · rw [if_pos b160] at h
                          refine x_sld (pc := 554) C hX hbl (Nat.not_le.mpr hbl) (x_in_n b160) (d_L_law 311 rfl) ?_
                          refine x_aload_n (pc := 555) C (d_L_law 312 rfl) rfl 1 rfl ?_
                          refine x_iload (pc := 556) C (d_L_law 313 rfl) 5 rfl ?_
                          refine x_iconst (pc := 558) (v := 3) C (by decide) (d_L_law 314 rfl) ?_
                          refine x_iadd (pc := 559) C (d_L_law 315 rfl) ?_
                          by_cases b161 : x_in (x4 + (3 : Int32)) N
                          · rw [if_pos b161] at h
                            refine x_sld (pc := 560) C hX hbl (Nat.not_le.mpr hbl) (x_in_n b161) (d_L_law 316 rfl) ?_
                            refine x_i2l (pc := 561) C (d_L_law 317 rfl) ?_
                            refine x_bipush (pc := 562) (v := 32) C (by decide) (d_L_law 318 rfl) ?_
                            refine x_lshl (pc := 564) C (d_L_law 319 rfl) ?_
                            refine x_aload_n (pc := 565) C (d_L_law 320 rfl) rfl 1 rfl ?_
                            refine x_iload (pc := 566) C (d_L_law 321 rfl) 5 rfl ?_
                            refine x_iconst (pc := 568) (v := 4) C (by decide) (d_L_law 322 rfl) ?_
                            refine x_iadd (pc := 569) C (d_L_law 323 rfl) ?_
                            by_cases b162 : x_in (x4 + (4 : Int32)) N
                            · rw [if_pos b162] at h
                              refine x_sld (pc := 570) C hX hbl (Nat.not_le.mpr hbl) (x_in_n b162) (d_L_law 324 rfl) ?_
                              refine x_i2l (pc := 571) C (d_L_law 325 rfl) ?_
                              refine x_ldc2 (pc := 572) C w_880 (d_L_law 326 rfl) ?_
                              refine x_land (pc := 575) C (d_L_law 327 rfl) ?_
                              refine x_lor (pc := 576) C (d_L_law 328 rfl) ?_
                              refine x_aload_n (pc := 577) C (d_L_law 329 rfl) rfl 1 rfl ?_
                              refine x_iload (pc := 578) C (d_L_law 330 rfl) 5 rfl ?_
                              refine x_iconst (pc := 580) (v := 5) C (by decide) (d_L_law 331 rfl) ?_
                              refine x_iadd (pc := 581) C (d_L_law 332 rfl) ?_
                              by_cases b163 : x_in (x4 + (5 : Int32)) N
                              · rw [if_pos b163] at h
                                refine x_sld (pc := 582) C hX hbl (Nat.not_le.mpr hbl) (x_in_n b163) (d_L_law 333 rfl) ?_
                                cases c165 : x2 with
                                | none => rw [c165] at h; cases h
                                | some i164 =>
                                  rw [c165] at h
                                  dsimp only at h
                                  cases c166 : f_M_write i164 (xs (x4 + (1 : Int32)).toNatClampNeg) (xs (x4 + (2 : Int32)).toNatClampNeg) ((((xs (x4 + (3 : Int32)).toNatClampNeg).toInt64) <<< ((32 : Int32).toInt64 &&& 63)) ||| (((xs (x4 + (4 : Int32)).toNatClampNeg).toInt64) &&& (4294967295 : Int64))) (xs (x4 + (5 : Int32)).toNatClampNeg) st158 with
                                  | none => rw [c166] at h; cases h
                                  | some w178 =>
                                    obtain ⟨v167, st168⟩ := w178
                                    rw [c166] at h
                                    dsimp only at h
                                    refine x_callV (mc := 0) (ms := 0) (pc := 583) (bL := [xI (xs (x4 + (1 : Int32)).toNatClampNeg), xI (xs (x4 + (2 : Int32)).toNatClampNeg), xL ((((xs (x4 + (3 : Int32)).toNatClampNeg).toInt64) <<< ((32 : Int32).toInt64 &&& 63)) ||| (((xs (x4 + (4 : Int32)).toNatClampNeg).toInt64) &&& (4294967295 : Int64))), xI (xs (x4 + (5 : Int32)).toNatClampNeg)]) (K := []) C cs_L_95 (m_M_write l c166 : x_M l _ _ _ _ (.inl (some (xI v167))) _ 0 0) ⟨by decide, by decide, by show _ + 0 ≤ 601024; omega, by show _ + 0 ≤ 7293034; omega⟩ rfl (Nat.le_of_ble_eq_true rfl) (d_L_law 334 rfl) ?_
                                    refine x_istore (pc := 586) (L2 := [(6, xI (v167)), (5, xI (v157)), (0, xA (b)), (1, xR 0 (x1)), (2, xR 32 (some (i164))), (3, xR 64 (x3)), (4, xI (x4))]) C (d_L_law 335 rfl) (by decide) rfl ?_
                                    refine x_aload_n (pc := 588) C (d_L_law 336 rfl) rfl 4 rfl ?_
                                    cases c169 : f_M_thrown i164 st168 with
                                    | none => rw [c169] at h; cases h
                                    | some v170 =>
                                      rw [c169] at h
                                      dsimp only at h
                                      refine x_callV (mc := 0) (ms := 0) (pc := 589) (bL := []) (K := []) C cs_L_69 (m_M_thrown l c169 : x_M l _ _ _ _ (.inl (some (xI v170))) _ 0 0) ⟨by decide, by decide, by show _ + 0 ≤ 601024; omega, by show _ + 0 ≤ 7293034; omega⟩ rfl (Nat.le_of_ble_eq_true rfl) (d_L_law 337 rfl) ?_
                                      refine x_iload (pc := 592) C (d_L_law 338 rfl) 1 rfl ?_
                                      refine x_icmp_eq (pc := 594) (tgt := 599) C (d_L_law 339 rfl) (by decide) (fun c171 => ?_) (fun c171 => ?_)
                                      · rw [if_pos c171] at h
                                        refine x_iload (pc := 599) C (d_L_law 342 rfl) 1 rfl ?_
                                        refine x_if_ne (pc := 601) (tgt := 616) C (d_L_law 343 rfl) (by decide) (fun c172 => ?_) (fun c172 => ?_)
                                        · rw [if_neg c172] at h
                                          refine x_goto (pc := 616) (tgt := 1199) C (d_L_law 353 rfl) (by decide) ?_
                                          refine x_iinc (pc := 1199) (v := x4 + 6) (L2 := [(4, xI (x4 + 6)), (6, xI (v167)), (5, xI (v157)), (0, xA (b)), (1, xR 0 (x1)), (2, xR 32 (some (i164))), (3, xR 64 (x3))]) C (d_L_law 752 rfl) 6 rfl rfl (by decide) rfl ?_
                                          refine x_goto (pc := 1202) (tgt := 23) C (d_L_law 753 rfl) (by decide) ?_
                                          exact x_sub [3, 4, 5, 6, 0] rfl (ih _ _ _ _ _ _ _ (by omega) (by omega) h)
                                        · rw [if_pos c172] at h
                                          refine x_aload_n (pc := 604) C (d_L_law 344 rfl) rfl 5 rfl ?_
                                          refine x_iconst (pc := 605) (v := 0) C (by decide) (d_L_law 345 rfl) ?_
                                          cases c174 : x3 with
                                          | none => rw [c174] at h; cases h
                                          | some i173 =>
                                            rw [c174] at h
                                            dsimp only at h
                                            by_cases b175 : x_in 0 1
                                            · rw [if_pos b175] at h
                                              refine x_lald (pc := 606) C ar_64 b175 (d_L_law 346 rfl) ?_
                                              refine x_iload (pc := 607) C (d_L_law 347 rfl) 0 rfl ?_
                                              refine x_i2l (pc := 609) C (d_L_law 348 rfl) ?_
                                              refine x_lcmp (pc := 610) C (d_L_law 349 rfl) ?_
                                              refine x_if_eq (pc := 611) (tgt := 616) C (d_L_law 350 rfl) (by decide) (fun c176 => ?_) (fun c176 => ?_)
                                              · rw [if_pos c176] at h
                                                refine x_goto (pc := 616) (tgt := 1199) C (d_L_law 353 rfl) (by decide) ?_
                                                refine x_iinc (pc := 1199) (v := x4 + 6) (L2 := [(4, xI (x4 + 6)), (6, xI (v167)), (5, xI (v157)), (0, xA (b)), (1, xR 0 (x1)), (2, xR 32 (some (i164))), (3, xR 64 (some (i173)))]) C (d_L_law 752 rfl) 6 rfl rfl (by decide) rfl ?_
                                                refine x_goto (pc := 1202) (tgt := 23) C (d_L_law 753 rfl) (by decide) ?_
                                                exact x_sub [3, 4, 5, 6, 0] rfl (ih _ _ _ _ _ _ _ (by omega) (by omega) h)
                                              · rw [if_neg c176] at h
                                                refine x_iconst (pc := 614) (v := 0) C (by decide) (d_L_law 351 rfl) ?_
                                                exact absurd (Option.some.inj h) (by decide)
                                            · rw [if_neg b175] at h; cases h
                                      · rw [if_neg c171] at h
                                        refine x_iconst (pc := 597) (v := 0) C (by decide) (d_L_law 340 rfl) ?_
                                        exact absurd (Option.some.inj h) (by decide)
                              · rw [if_neg b163] at h; cases h
                            · rw [if_neg b162] at h; cases h
                          · rw [if_neg b161] at h; cases h
                        · rw [if_neg b160] at h; cases h
                      · rw [if_neg b159] at h; cases h
                  · rw [if_neg b155] at h; cases h
                · rw [if_neg b154] at h; cases h
              · rw [if_neg b153] at h; cases h
            · rw [if_neg b152] at h; cases h
          · rw [if_neg b151] at h; cases h
        rw [if_neg c150] at h
        by_cases c180 : ((xs x4.toNatClampNeg) &&& (31 : Int32)) = 8
        · rw [if_pos c180] at h
          refine x_tsw (pc := 40) (v := 8) (tgt := 619) C (d_L_law 24 rfl) c180 (by decide) (by decide) rfl (by decide) ?_
          refine x_aload_n (pc := 619) C (d_L_law 354 rfl) rfl 1 rfl ?_
          refine x_aload_n (pc := 620) C (d_L_law 355 rfl) rfl 0 rfl ?_
          refine x_iload (pc := 621) C (d_L_law 356 rfl) 4 rfl ?_
          refine x_iconst (pc := 623) (v := 1) C (by decide) (d_L_law 357 rfl) ?_
          refine x_iadd (pc := 624) C (d_L_law 358 rfl) ?_
          by_cases b181 : x_in (x4 + (1 : Int32)) N
          · rw [if_pos b181] at h
            refine x_sld (pc := 625) C hX hbl (Nat.not_le.mpr hbl) (x_in_n b181) (d_L_law 359 rfl) ?_
            refine x_aload_n (pc := 626) C (d_L_law 360 rfl) rfl 0 rfl ?_
            refine x_iload (pc := 627) C (d_L_law 361 rfl) 4 rfl ?_
            refine x_iconst (pc := 629) (v := 2) C (by decide) (d_L_law 362 rfl) ?_
            refine x_iadd (pc := 630) C (d_L_law 363 rfl) ?_
            by_cases b182 : x_in (x4 + (2 : Int32)) N
            · rw [if_pos b182] at h
              refine x_sld (pc := 631) C hX hbl (Nat.not_le.mpr hbl) (x_in_n b182) (d_L_law 364 rfl) ?_
              refine x_aload_n (pc := 632) C (d_L_law 365 rfl) rfl 3 rfl ?_
              cases c183 : f_L_close (x1) (xs (x4 + (1 : Int32)).toNatClampNeg) (xs (x4 + (2 : Int32)).toNatClampNeg) (x3) st with
              | none => rw [c183] at h; cases h
              | some w203 =>
                obtain ⟨v184, st185⟩ := w203
                rw [c183] at h
                dsimp only at h
                refine x_callS (mc := 1) (ms := 6) (pc := 633) (aL := [xR 0 (x1), xI (xs (x4 + (1 : Int32)).toNatClampNeg), xI (xs (x4 + (2 : Int32)).toNatClampNeg), xR 64 (x3)]) (K := []) C cs_L_96 (m_L_close l hfl c183 : x_M l _ _ _ _ (.inl (some (xI v184))) _ 1 6) ⟨by decide, by decide, by show _ + 1 ≤ 601024; omega, by show _ + 6 ≤ 7293034; omega⟩ rfl (Nat.le_of_ble_eq_true rfl) (d_L_law 366 rfl) ?_
                refine x_istore (pc := 636) (L2 := [(5, xI (v184)), (0, xA (b)), (1, xR 0 (x1)), (2, xR 32 (x2)), (3, xR 64 (x3)), (4, xI (x4))]) C (d_L_law 367 rfl) (by decide) rfl ?_
                refine x_aload_n (pc := 638) C (d_L_law 368 rfl) rfl 3 rfl ?_
                refine x_aload_n (pc := 639) C (d_L_law 369 rfl) rfl 1 rfl ?_
                refine x_iload (pc := 640) C (d_L_law 370 rfl) 5 rfl ?_
                refine x_iconst (pc := 642) (v := 1) C (by decide) (d_L_law 371 rfl) ?_
                refine x_iadd (pc := 643) C (d_L_law 372 rfl) ?_
                by_cases b186 : x_in (x4 + (1 : Int32)) N
                · rw [if_pos b186] at h
                  refine x_sld (pc := 644) C hX hbl (Nat.not_le.mpr hbl) (x_in_n b186) (d_L_law 373 rfl) ?_
                  refine x_aload_n (pc := 645) C (d_L_law 374 rfl) rfl 1 rfl ?_
                  refine x_iload (pc := 646) C (d_L_law 375 rfl) 5 rfl ?_
                  refine x_iconst (pc := 648) (v := 2) C (by decide) (d_L_law 376 rfl) ?_
                  refine x_iadd (pc := 649) C (d_L_law 377 rfl) ?_
                  by_cases b187 : x_in (x4 + (2 : Int32)) N
                  · rw [if_pos b187] at h
                    refine x_sld (pc := 650) C hX hbl (Nat.not_le.mpr hbl) (x_in_n b187) (d_L_law 378 rfl) ?_
                    cases c189 : x2 with
                    | none => rw [c189] at h; cases h
                    | some i188 =>
                      rw [c189] at h
                      dsimp only at h
                      cases c190 : f_M_close i188 (xs (x4 + (1 : Int32)).toNatClampNeg) (xs (x4 + (2 : Int32)).toNatClampNeg) st185 with
                      | none => rw [c190] at h; cases h
                      | some w202 =>
                        obtain ⟨v191, st192⟩ := w202
                        rw [c190] at h
                        dsimp only at h
                        refine x_callV (mc := 0) (ms := 0) (pc := 651) (bL := [xI (xs (x4 + (1 : Int32)).toNatClampNeg), xI (xs (x4 + (2 : Int32)).toNatClampNeg)]) (K := []) C cs_L_99 (m_M_close l c190 : x_M l _ _ _ _ (.inl (some (xI v191))) _ 0 0) ⟨by decide, by decide, by show _ + 0 ≤ 601024; omega, by show _ + 0 ≤ 7293034; omega⟩ rfl (Nat.le_of_ble_eq_true rfl) (d_L_law 379 rfl) ?_
                        refine x_istore (pc := 654) (L2 := [(6, xI (v191)), (5, xI (v184)), (0, xA (b)), (1, xR 0 (x1)), (2, xR 32 (some (i188))), (3, xR 64 (x3)), (4, xI (x4))]) C (d_L_law 380 rfl) (by decide) rfl ?_
                        refine x_aload_n (pc := 656) C (d_L_law 381 rfl) rfl 4 rfl ?_
                        cases c193 : f_M_thrown i188 st192 with
                        | none => rw [c193] at h; cases h
                        | some v194 =>
                          rw [c193] at h
                          dsimp only at h
                          refine x_callV (mc := 0) (ms := 0) (pc := 657) (bL := []) (K := []) C cs_L_69 (m_M_thrown l c193 : x_M l _ _ _ _ (.inl (some (xI v194))) _ 0 0) ⟨by decide, by decide, by show _ + 0 ≤ 601024; omega, by show _ + 0 ≤ 7293034; omega⟩ rfl (Nat.le_of_ble_eq_true rfl) (d_L_law 382 rfl) ?_
                          refine x_iload (pc := 660) C (d_L_law 383 rfl) 1 rfl ?_
                          refine x_icmp_eq (pc := 662) (tgt := 667) C (d_L_law 384 rfl) (by decide) (fun c195 => ?_) (fun c195 => ?_)
                          · rw [if_pos c195] at h
                            refine x_iload (pc := 667) C (d_L_law 387 rfl) 1 rfl ?_
                            refine x_if_ne (pc := 669) (tgt := 684) C (d_L_law 388 rfl) (by decide) (fun c196 => ?_) (fun c196 => ?_)
                            · rw [if_neg c196] at h
                              refine x_goto (pc := 684) (tgt := 1199) C (d_L_law 398 rfl) (by decide) ?_
                              refine x_iinc (pc := 1199) (v := x4 + 6) (L2 := [(4, xI (x4 + 6)), (6, xI (v191)), (5, xI (v184)), (0, xA (b)), (1, xR 0 (x1)), (2, xR 32 (some (i188))), (3, xR 64 (x3))]) C (d_L_law 752 rfl) 6 rfl rfl (by decide) rfl ?_
                              refine x_goto (pc := 1202) (tgt := 23) C (d_L_law 753 rfl) (by decide) ?_
                              exact x_sub [3, 4, 5, 6, 0] rfl (ih _ _ _ _ _ _ _ (by omega) (by omega) h)
                            · rw [if_pos c196] at h
                              refine x_aload_n (pc := 672) C (d_L_law 389 rfl) rfl 5 rfl ?_
                              refine x_iconst (pc := 673) (v := 0) C (by decide) (d_L_law 390 rfl) ?_
                              cases c198 : x3 with
                              | none => rw [c198] at h; cases h
                              | some i197 =>
                                rw [c198] at h
                                dsimp only at h
                                by_cases b199 : x_in 0 1
                                · rw [if_pos b199] at h
                                  refine x_lald (pc := 674) C ar_64 b199 (d_L_law 391 rfl) ?_
                                  refine x_iload (pc := 675) C (d_L_law 392 rfl) 0 rfl ?_
                                  refine x_i2l (pc := 677) C (d_L_law 393 rfl) ?_
                                  refine x_lcmp (pc := 678) C (d_L_law 394 rfl) ?_
                                  refine x_if_eq (pc := 679) (tgt := 684) C (d_L_law 395 rfl) (by decide) (fun c200 => ?_) (fun c200 => ?_)
                                  · rw [if_pos c200] at h
                                    refine x_goto (pc := 684) (tgt := 1199) C (d_L_law 398 rfl) (by decide) ?_
                                    refine x_iinc (pc := 1199) (v := x4 + 6) (L2 := [(4, xI (x4 + 6)), (6, xI (v191)), (5, xI (v184)), (0, xA (b)), (1, xR 0 (x1)), (2, xR 32 (some (i188))), (3, xR 64 (some (i197)))]) C (d_L_law 752 rfl) 6 rfl rfl (by decide) rfl ?_
                                    refine x_goto (pc := 1202) (tgt := 23) C (d_L_law 753 rfl) (by decide) ?_
                                    exact x_sub [3, 4, 5, 6, 0] rfl (ih _ _ _ _ _ _ _ (by omega) (by omega) h)
                                  · rw [if_neg c200] at h
                                    refine x_iconst (pc := 682) (v := 0) C (by decide) (d_L_law 396 rfl) ?_
                                    exact absurd (Option.some.inj h) (by decide)
                                · rw [if_neg b199] at h; cases h
                          · rw [if_neg c195] at h
                            refine x_iconst (pc := 665) (v := 0) C (by decide) (d_L_law 385 rfl) ?_
                            exact absurd (Option.some.inj h) (by decide)
                  · rw [if_neg b187] at h; cases h
                · rw [if_neg b186] at h; cases h
            · rw [if_neg b182] at h; cases h
          · rw [if_neg b181] at h; cases h
        rw [if_neg c180] at h
        by_cases c204 : ((xs x4.toNatClampNeg) &&& (31 : Int32)) = 9
        · rw [if_pos c204] at h
          refine x_tsw (pc := 40) (v := 9) (tgt := 687) C (d_L_law 24 rfl) c204 (by decide) (by decide) rfl (by decide) ?_
          refine x_aload_n (pc := 687) C (d_L_law 399 rfl) rfl 1 rfl ?_
          refine x_aload_n (pc := 688) C (d_L_law 400 rfl) rfl 0 rfl ?_
          refine x_iload (pc := 689) C (d_L_law 401 rfl) 4 rfl ?_
          refine x_iconst (pc := 691) (v := 1) C (by decide) (d_L_law 402 rfl) ?_
          refine x_iadd (pc := 692) C (d_L_law 403 rfl) ?_
          by_cases b205 : x_in (x4 + (1 : Int32)) N
          · rw [if_pos b205] at h
            refine x_sld (pc := 693) C hX hbl (Nat.not_le.mpr hbl) (x_in_n b205) (d_L_law 404 rfl) ?_
            refine x_aload_n (pc := 694) C (d_L_law 405 rfl) rfl 0 rfl ?_
            refine x_iload (pc := 695) C (d_L_law 406 rfl) 4 rfl ?_
            refine x_iconst (pc := 697) (v := 2) C (by decide) (d_L_law 407 rfl) ?_
            refine x_iadd (pc := 698) C (d_L_law 408 rfl) ?_
            by_cases b206 : x_in (x4 + (2 : Int32)) N
            · rw [if_pos b206] at h
              refine x_sld (pc := 699) C hX hbl (Nat.not_le.mpr hbl) (x_in_n b206) (d_L_law 409 rfl) ?_
              refine x_aload_n (pc := 700) C (d_L_law 410 rfl) rfl 0 rfl ?_
              refine x_iload (pc := 701) C (d_L_law 411 rfl) 4 rfl ?_
              refine x_iconst (pc := 703) (v := 3) C (by decide) (d_L_law 412 rfl) ?_
              refine x_iadd (pc := 704) C (d_L_law 413 rfl) ?_
              by_cases b207 : x_in (x4 + (3 : Int32)) N
              · rw [if_pos b207] at h
                refine x_sld (pc := 705) C hX hbl (Nat.not_le.mpr hbl) (x_in_n b207) (d_L_law 414 rfl) ?_
                refine x_aload_n (pc := 706) C (d_L_law 415 rfl) rfl 3 rfl ?_
                cases c208 : f_L_dup (x1) (xs (x4 + (1 : Int32)).toNatClampNeg) (xs (x4 + (2 : Int32)).toNatClampNeg) (xs (x4 + (3 : Int32)).toNatClampNeg) (x3) st with
                | none => rw [c208] at h; cases h
                | some w229 =>
                  obtain ⟨v209, st210⟩ := w229
                  rw [c208] at h
                  dsimp only at h
                  refine x_callS (mc := 1) (ms := 6) (pc := 707) (aL := [xR 0 (x1), xI (xs (x4 + (1 : Int32)).toNatClampNeg), xI (xs (x4 + (2 : Int32)).toNatClampNeg), xI (xs (x4 + (3 : Int32)).toNatClampNeg), xR 64 (x3)]) (K := []) C cs_L_100 (m_L_dup l hfl c208 : x_M l _ _ _ _ (.inl (some (xI v209))) _ 1 6) ⟨by decide, by decide, by show _ + 1 ≤ 601024; omega, by show _ + 6 ≤ 7293034; omega⟩ rfl (Nat.le_of_ble_eq_true rfl) (d_L_law 416 rfl) ?_
                  refine x_istore (pc := 710) (L2 := [(5, xI (v209)), (0, xA (b)), (1, xR 0 (x1)), (2, xR 32 (x2)), (3, xR 64 (x3)), (4, xI (x4))]) C (d_L_law 417 rfl) (by decide) rfl ?_
                  refine x_aload_n (pc := 712) C (d_L_law 418 rfl) rfl 3 rfl ?_
                  refine x_aload_n (pc := 713) C (d_L_law 419 rfl) rfl 1 rfl ?_
                  refine x_iload (pc := 714) C (d_L_law 420 rfl) 5 rfl ?_
                  refine x_iconst (pc := 716) (v := 1) C (by decide) (d_L_law 421 rfl) ?_
                  refine x_iadd (pc := 717) C (d_L_law 422 rfl) ?_
                  by_cases b211 : x_in (x4 + (1 : Int32)) N
                  · rw [if_pos b211] at h
                    refine x_sld (pc := 718) C hX hbl (Nat.not_le.mpr hbl) (x_in_n b211) (d_L_law 423 rfl) ?_
                    refine x_aload_n (pc := 719) C (d_L_law 424 rfl) rfl 1 rfl ?_
                    refine x_iload (pc := 720) C (d_L_law 425 rfl) 5 rfl ?_
                    refine x_iconst (pc := 722) (v := 2) C (by decide) (d_L_law 426 rfl) ?_
                    refine x_iadd (pc := 723) C (d_L_law 427 rfl) ?_
                    by_cases b212 : x_in (x4 + (2 : Int32)) N
                    · rw [if_pos b212] at h
                      refine x_sld (pc := 724) C hX hbl (Nat.not_le.mpr hbl) (x_in_n b212) (d_L_law 428 rfl) ?_
                      refine x_aload_n (pc := 725) C (d_L_law 429 rfl) rfl 1 rfl ?_
                      refine x_iload (pc := 726) C (d_L_law 430 rfl) 5 rfl ?_
                      refine x_iconst (pc := 728) (v := 3) C (by decide) (d_L_law 431 rfl) ?_
                      refine x_iadd (pc := 729) C (d_L_law 432 rfl) ?_
                      by_cases b213 : x_in (x4 + (3 : Int32)) N
                      · rw [if_pos b213] at h
                        refine x_sld (pc := 730) C hX hbl (Nat.not_le.mpr hbl) (x_in_n b213) (d_L_law 433 rfl) ?_
                        cases c215 : x2 with
                        | none => rw [c215] at h; cases h
                        | some i214 =>
                          rw [c215] at h
                          dsimp only at h
                          cases c216 : f_M_dup i214 (xs (x4 + (1 : Int32)).toNatClampNeg) (xs (x4 + (2 : Int32)).toNatClampNeg) (xs (x4 + (3 : Int32)).toNatClampNeg) st210 with
                          | none => rw [c216] at h; cases h
                          | some w228 =>
                            obtain ⟨v217, st218⟩ := w228
                            rw [c216] at h
                            dsimp only at h
                            refine x_callV (mc := 0) (ms := 0) (pc := 731) (bL := [xI (xs (x4 + (1 : Int32)).toNatClampNeg), xI (xs (x4 + (2 : Int32)).toNatClampNeg), xI (xs (x4 + (3 : Int32)).toNatClampNeg)]) (K := []) C cs_L_102 (m_M_dup l c216 : x_M l _ _ _ _ (.inl (some (xI v217))) _ 0 0) ⟨by decide, by decide, by show _ + 0 ≤ 601024; omega, by show _ + 0 ≤ 7293034; omega⟩ rfl (Nat.le_of_ble_eq_true rfl) (d_L_law 434 rfl) ?_
                            refine x_istore (pc := 734) (L2 := [(6, xI (v217)), (5, xI (v209)), (0, xA (b)), (1, xR 0 (x1)), (2, xR 32 (some (i214))), (3, xR 64 (x3)), (4, xI (x4))]) C (d_L_law 435 rfl) (by decide) rfl ?_
                            refine x_aload_n (pc := 736) C (d_L_law 436 rfl) rfl 4 rfl ?_
                            cases c219 : f_M_thrown i214 st218 with
                            | none => rw [c219] at h; cases h
                            | some v220 =>
                              rw [c219] at h
                              dsimp only at h
                              refine x_callV (mc := 0) (ms := 0) (pc := 737) (bL := []) (K := []) C cs_L_69 (m_M_thrown l c219 : x_M l _ _ _ _ (.inl (some (xI v220))) _ 0 0) ⟨by decide, by decide, by show _ + 0 ≤ 601024; omega, by show _ + 0 ≤ 7293034; omega⟩ rfl (Nat.le_of_ble_eq_true rfl) (d_L_law 437 rfl) ?_
                              refine x_iload (pc := 740) C (d_L_law 438 rfl) 1 rfl ?_
                              refine x_icmp_eq (pc := 742) (tgt := 747) C (d_L_law 439 rfl) (by decide) (fun c221 => ?_) (fun c221 => ?_)
                              · rw [if_pos c221] at h
                                refine x_iload (pc := 747) C (d_L_law 442 rfl) 1 rfl ?_
                                refine x_if_ne (pc := 749) (tgt := 764) C (d_L_law 443 rfl) (by decide) (fun c222 => ?_) (fun c222 => ?_)
                                · rw [if_neg c222] at h
                                  refine x_goto (pc := 764) (tgt := 1199) C (d_L_law 453 rfl) (by decide) ?_
                                  refine x_iinc (pc := 1199) (v := x4 + 6) (L2 := [(4, xI (x4 + 6)), (6, xI (v217)), (5, xI (v209)), (0, xA (b)), (1, xR 0 (x1)), (2, xR 32 (some (i214))), (3, xR 64 (x3))]) C (d_L_law 752 rfl) 6 rfl rfl (by decide) rfl ?_
                                  refine x_goto (pc := 1202) (tgt := 23) C (d_L_law 753 rfl) (by decide) ?_
                                  exact x_sub [3, 4, 5, 6, 0] rfl (ih _ _ _ _ _ _ _ (by omega) (by omega) h)
                                · rw [if_pos c222] at h
                                  refine x_aload_n (pc := 752) C (d_L_law 444 rfl) rfl 5 rfl ?_
                                  refine x_iconst (pc := 753) (v := 0) C (by decide) (d_L_law 445 rfl) ?_
                                  cases c224 : x3 with
                                  | none => rw [c224] at h; cases h
                                  | some i223 =>
                                    rw [c224] at h
                                    dsimp only at h
                                    by_cases b225 : x_in 0 1
                                    · rw [if_pos b225] at h
                                      refine x_lald (pc := 754) C ar_64 b225 (d_L_law 446 rfl) ?_
                                      refine x_iload (pc := 755) C (d_L_law 447 rfl) 0 rfl ?_
                                      refine x_i2l (pc := 757) C (d_L_law 448 rfl) ?_
                                      refine x_lcmp (pc := 758) C (d_L_law 449 rfl) ?_
                                      refine x_if_eq (pc := 759) (tgt := 764) C (d_L_law 450 rfl) (by decide) (fun c226 => ?_) (fun c226 => ?_)
                                      · rw [if_pos c226] at h
                                        refine x_goto (pc := 764) (tgt := 1199) C (d_L_law 453 rfl) (by decide) ?_
                                        refine x_iinc (pc := 1199) (v := x4 + 6) (L2 := [(4, xI (x4 + 6)), (6, xI (v217)), (5, xI (v209)), (0, xA (b)), (1, xR 0 (x1)), (2, xR 32 (some (i214))), (3, xR 64 (some (i223)))]) C (d_L_law 752 rfl) 6 rfl rfl (by decide) rfl ?_
                                        refine x_goto (pc := 1202) (tgt := 23) C (d_L_law 753 rfl) (by decide) ?_
                                        exact x_sub [3, 4, 5, 6, 0] rfl (ih _ _ _ _ _ _ _ (by omega) (by omega) h)
                                      · rw [if_neg c226] at h
                                        refine x_iconst (pc := 762) (v := 0) C (by decide) (d_L_law 451 rfl) ?_
                                        exact absurd (Option.some.inj h) (by decide)
                                    · rw [if_neg b225] at h; cases h
                              · rw [if_neg c221] at h
                                refine x_iconst (pc := 745) (v := 0) C (by decide) (d_L_law 440 rfl) ?_
                                exact absurd (Option.some.inj h) (by decide)
                      · rw [if_neg b213] at h; cases h
                    · rw [if_neg b212] at h; cases h
                  · rw [if_neg b211] at h; cases h
              · rw [if_neg b207] at h; cases h
            · rw [if_neg b206] at h; cases h
          · rw [if_neg b205] at h; cases h
        rw [if_neg c204] at h
        by_cases c230 : ((xs x4.toNatClampNeg) &&& (31 : Int32)) = 10
        · rw [if_pos c230] at h
          refine x_tsw (pc := 40) (v := 10) (tgt := 767) C (d_L_law 24 rfl) c230 (by decide) (by decide) rfl (by decide) ?_
          refine x_aload_n (pc := 767) C (d_L_law 454 rfl) rfl 1 rfl ?_
          refine x_aload_n (pc := 768) C (d_L_law 455 rfl) rfl 0 rfl ?_
          refine x_iload (pc := 769) C (d_L_law 456 rfl) 4 rfl ?_
          refine x_iconst (pc := 771) (v := 1) C (by decide) (d_L_law 457 rfl) ?_
          refine x_iadd (pc := 772) C (d_L_law 458 rfl) ?_
          by_cases b231 : x_in (x4 + (1 : Int32)) N
          · rw [if_pos b231] at h
            refine x_sld (pc := 773) C hX hbl (Nat.not_le.mpr hbl) (x_in_n b231) (d_L_law 459 rfl) ?_
            refine x_aload_n (pc := 774) C (d_L_law 460 rfl) rfl 0 rfl ?_
            refine x_iload (pc := 775) C (d_L_law 461 rfl) 4 rfl ?_
            refine x_iconst (pc := 777) (v := 2) C (by decide) (d_L_law 462 rfl) ?_
            refine x_iadd (pc := 778) C (d_L_law 463 rfl) ?_
            by_cases b232 : x_in (x4 + (2 : Int32)) N
            · rw [if_pos b232] at h
              refine x_sld (pc := 779) C hX hbl (Nat.not_le.mpr hbl) (x_in_n b232) (d_L_law 464 rfl) ?_
              refine x_aload_n (pc := 780) C (d_L_law 465 rfl) rfl 0 rfl ?_
              refine x_iload (pc := 781) C (d_L_law 466 rfl) 4 rfl ?_
              refine x_iconst (pc := 783) (v := 3) C (by decide) (d_L_law 467 rfl) ?_
              refine x_iadd (pc := 784) C (d_L_law 468 rfl) ?_
              by_cases b233 : x_in (x4 + (3 : Int32)) N
              · rw [if_pos b233] at h
                refine x_sld (pc := 785) C hX hbl (Nat.not_le.mpr hbl) (x_in_n b233) (d_L_law 469 rfl) ?_
                refine x_aload_n (pc := 786) C (d_L_law 470 rfl) rfl 0 rfl ?_
                refine x_iload (pc := 787) C (d_L_law 471 rfl) 4 rfl ?_
                refine x_iconst (pc := 789) (v := 4) C (by decide) (d_L_law 472 rfl) ?_
                refine x_iadd (pc := 790) C (d_L_law 473 rfl) ?_
                by_cases b234 : x_in (x4 + (4 : Int32)) N
                · rw [if_pos b234] at h
                  refine x_sld (pc := 791) C hX hbl (Nat.not_le.mpr hbl) (x_in_n b234) (d_L_law 474 rfl) ?_
                  refine x_aload_n (pc := 792) C (d_L_law 475 rfl) rfl 3 rfl ?_
                  cases c235 : f_L_seek (x1) (xs (x4 + (1 : Int32)).toNatClampNeg) (xs (x4 + (2 : Int32)).toNatClampNeg) (xs (x4 + (3 : Int32)).toNatClampNeg) (xs (x4 + (4 : Int32)).toNatClampNeg) (x3) st with
                  | none => rw [c235] at h; cases h
                  | some w257 =>
                    obtain ⟨v236, st237⟩ := w257
                    rw [c235] at h
                    dsimp only at h
                    refine x_callS (mc := 1) (ms := 6) (pc := 793) (aL := [xR 0 (x1), xI (xs (x4 + (1 : Int32)).toNatClampNeg), xI (xs (x4 + (2 : Int32)).toNatClampNeg), xI (xs (x4 + (3 : Int32)).toNatClampNeg), xI (xs (x4 + (4 : Int32)).toNatClampNeg), xR 64 (x3)]) (K := []) C cs_L_103 (m_L_seek l hfl c235 : x_M l _ _ _ _ (.inl (some (xI v236))) _ 1 6) ⟨by decide, by decide, by show _ + 1 ≤ 601024; omega, by show _ + 6 ≤ 7293034; omega⟩ rfl (Nat.le_of_ble_eq_true rfl) (d_L_law 476 rfl) ?_
                    refine x_istore (pc := 796) (L2 := [(5, xI (v236)), (0, xA (b)), (1, xR 0 (x1)), (2, xR 32 (x2)), (3, xR 64 (x3)), (4, xI (x4))]) C (d_L_law 477 rfl) (by decide) rfl ?_
                    refine x_aload_n (pc := 798) C (d_L_law 478 rfl) rfl 3 rfl ?_
                    refine x_aload_n (pc := 799) C (d_L_law 479 rfl) rfl 1 rfl ?_
                    refine x_iload (pc := 800) C (d_L_law 480 rfl) 5 rfl ?_
                    refine x_iconst (pc := 802) (v := 1) C (by decide) (d_L_law 481 rfl) ?_
                    refine x_iadd (pc := 803) C (d_L_law 482 rfl) ?_
                    by_cases b238 : x_in (x4 + (1 : Int32)) N
                    · rw [if_pos b238] at h
                      refine x_sld (pc := 804) C hX hbl (Nat.not_le.mpr hbl) (x_in_n b238) (d_L_law 483 rfl) ?_
                      refine x_aload_n (pc := 805) C (d_L_law 484 rfl) rfl 1 rfl ?_
                      refine x_iload (pc := 806) C (d_L_law 485 rfl) 5 rfl ?_
                      refine x_iconst (pc := 808) (v := 2) C (by decide) (d_L_law 486 rfl) ?_
                      refine x_iadd (pc := 809) C (d_L_law 487 rfl) ?_
                      by_cases b239 : x_in (x4 + (2 : Int32)) N
                      · rw [if_pos b239] at h
                        refine x_sld (pc := 810) C hX hbl (Nat.not_le.mpr hbl) (x_in_n b239) (d_L_law 488 rfl) ?_
                        refine x_aload_n (pc := 811) C (d_L_law 489 rfl) rfl 1 rfl ?_
                        refine x_iload (pc := 812) C (d_L_law 490 rfl) 5 rfl ?_
                        refine x_iconst (pc := 814) (v := 3) C (by decide) (d_L_law 491 rfl) ?_
                        refine x_iadd (pc := 815) C (d_L_law 492 rfl) ?_
                        by_cases b240 : x_in (x4 + (3 : Int32)) N
                        · rw [if_pos b240] at h
                          refine x_sld (pc := 816) C hX hbl (Nat.not_le.mpr hbl) (x_in_n b240) (d_L_law 493 rfl) ?_
                          refine x_aload_n (pc := 817) C (d_L_law 494 rfl) rfl 1 rfl ?_
                          refine x_iload (pc := 818) C (d_L_law 495 rfl) 5 rfl ?_
                          refine x_iconst (pc := 820) (v := 4) C (by decide) (d_L_law 496 rfl) ?_
                          refine x_iadd (pc := 821) C (d_L_law 497 rfl) ?_
                          by_cases b241 : x_in (x4 + (4 : Int32)) N
                          · rw [if_pos b241] at h
                            refine x_sld (pc := 822) C hX hbl (Nat.not_le.mpr hbl) (x_in_n b241) (d_L_law 498 rfl) ?_
                            cases c243 : x2 with
                            | none => rw [c243] at h; cases h
                            | some i242 =>
                              rw [c243] at h
                              dsimp only at h
                              cases c244 : f_M_seek i242 (xs (x4 + (1 : Int32)).toNatClampNeg) (xs (x4 + (2 : Int32)).toNatClampNeg) (xs (x4 + (3 : Int32)).toNatClampNeg) (xs (x4 + (4 : Int32)).toNatClampNeg) st237 with
                              | none => rw [c244] at h; cases h
                              | some w256 =>
                                obtain ⟨v245, st246⟩ := w256
                                rw [c244] at h
                                dsimp only at h
                                refine x_callV (mc := 0) (ms := 0) (pc := 823) (bL := [xI (xs (x4 + (1 : Int32)).toNatClampNeg), xI (xs (x4 + (2 : Int32)).toNatClampNeg), xI (xs (x4 + (3 : Int32)).toNatClampNeg), xI (xs (x4 + (4 : Int32)).toNatClampNeg)]) (K := []) C cs_L_106 (m_M_seek l c244 : x_M l _ _ _ _ (.inl (some (xI v245))) _ 0 0) ⟨by decide, by decide, by show _ + 0 ≤ 601024; omega, by show _ + 0 ≤ 7293034; omega⟩ rfl (Nat.le_of_ble_eq_true rfl) (d_L_law 499 rfl) ?_
                                refine x_istore (pc := 826) (L2 := [(6, xI (v245)), (5, xI (v236)), (0, xA (b)), (1, xR 0 (x1)), (2, xR 32 (some (i242))), (3, xR 64 (x3)), (4, xI (x4))]) C (d_L_law 500 rfl) (by decide) rfl ?_
                                refine x_aload_n (pc := 828) C (d_L_law 501 rfl) rfl 4 rfl ?_
                                cases c247 : f_M_thrown i242 st246 with
                                | none => rw [c247] at h; cases h
                                | some v248 =>
                                  rw [c247] at h
                                  dsimp only at h
                                  refine x_callV (mc := 0) (ms := 0) (pc := 829) (bL := []) (K := []) C cs_L_69 (m_M_thrown l c247 : x_M l _ _ _ _ (.inl (some (xI v248))) _ 0 0) ⟨by decide, by decide, by show _ + 0 ≤ 601024; omega, by show _ + 0 ≤ 7293034; omega⟩ rfl (Nat.le_of_ble_eq_true rfl) (d_L_law 502 rfl) ?_
                                  refine x_iload (pc := 832) C (d_L_law 503 rfl) 1 rfl ?_
                                  refine x_icmp_eq (pc := 834) (tgt := 839) C (d_L_law 504 rfl) (by decide) (fun c249 => ?_) (fun c249 => ?_)
                                  · rw [if_pos c249] at h
                                    refine x_iload (pc := 839) C (d_L_law 507 rfl) 1 rfl ?_
                                    refine x_if_ne (pc := 841) (tgt := 856) C (d_L_law 508 rfl) (by decide) (fun c250 => ?_) (fun c250 => ?_)
                                    · rw [if_neg c250] at h
                                      refine x_goto (pc := 856) (tgt := 1199) C (d_L_law 518 rfl) (by decide) ?_
                                      refine x_iinc (pc := 1199) (v := x4 + 6) (L2 := [(4, xI (x4 + 6)), (6, xI (v245)), (5, xI (v236)), (0, xA (b)), (1, xR 0 (x1)), (2, xR 32 (some (i242))), (3, xR 64 (x3))]) C (d_L_law 752 rfl) 6 rfl rfl (by decide) rfl ?_
                                      refine x_goto (pc := 1202) (tgt := 23) C (d_L_law 753 rfl) (by decide) ?_
                                      exact x_sub [3, 4, 5, 6, 0] rfl (ih _ _ _ _ _ _ _ (by omega) (by omega) h)
                                    · rw [if_pos c250] at h
                                      refine x_aload_n (pc := 844) C (d_L_law 509 rfl) rfl 5 rfl ?_
                                      refine x_iconst (pc := 845) (v := 0) C (by decide) (d_L_law 510 rfl) ?_
                                      cases c252 : x3 with
                                      | none => rw [c252] at h; cases h
                                      | some i251 =>
                                        rw [c252] at h
                                        dsimp only at h
                                        by_cases b253 : x_in 0 1
                                        · rw [if_pos b253] at h
                                          refine x_lald (pc := 846) C ar_64 b253 (d_L_law 511 rfl) ?_
                                          refine x_iload (pc := 847) C (d_L_law 512 rfl) 0 rfl ?_
                                          refine x_i2l (pc := 849) C (d_L_law 513 rfl) ?_
                                          refine x_lcmp (pc := 850) C (d_L_law 514 rfl) ?_
                                          refine x_if_eq (pc := 851) (tgt := 856) C (d_L_law 515 rfl) (by decide) (fun c254 => ?_) (fun c254 => ?_)
                                          · rw [if_pos c254] at h
                                            refine x_goto (pc := 856) (tgt := 1199) C (d_L_law 518 rfl) (by decide) ?_
                                            refine x_iinc (pc := 1199) (v := x4 + 6) (L2 := [(4, xI (x4 + 6)), (6, xI (v245)), (5, xI (v236)), (0, xA (b)), (1, xR 0 (x1)), (2, xR 32 (some (i242))), (3, xR 64 (some (i251)))]) C (d_L_law 752 rfl) 6 rfl rfl (by decide) rfl ?_
                                            refine x_goto (pc := 1202) (tgt := 23) C (d_L_law 753 rfl) (by decide) ?_
                                            exact x_sub [3, 4, 5, 6, 0] rfl (ih _ _ _ _ _ _ _ (by omega) (by omega) h)
                                          · rw [if_neg c254] at h
                                            refine x_iconst (pc := 854) (v := 0) C (by decide) (d_L_law 516 rfl) ?_
                                            exact absurd (Option.some.inj h) (by decide)
                                        · rw [if_neg b253] at h; cases h
                                  · rw [if_neg c249] at h
                                    refine x_iconst (pc := 837) (v := 0) C (by decide) (d_L_law 505 rfl) ?_
                                    exact absurd (Option.some.inj h) (by decide)
                          · rw [if_neg b241] at h; cases h
                        · rw [if_neg b240] at h; cases h
                      · rw [if_neg b239] at h; cases h
                    · rw [if_neg b238] at h; cases h
                · rw [if_neg b234] at h; cases h
              · rw [if_neg b233] at h; cases h
            · rw [if_neg b232] at h; cases h
          · rw [if_neg b231] at h; cases h
        rw [if_neg c230] at h
        by_cases c258 : ((xs x4.toNatClampNeg) &&& (31 : Int32)) = 11
        · rw [if_pos c258] at h
          refine x_tsw (pc := 40) (v := 11) (tgt := 859) C (d_L_law 24 rfl) c258 (by decide) (by decide) rfl (by decide) ?_
          refine x_aload_n (pc := 859) C (d_L_law 519 rfl) rfl 1 rfl ?_
          refine x_aload_n (pc := 860) C (d_L_law 520 rfl) rfl 0 rfl ?_
          refine x_iload (pc := 861) C (d_L_law 521 rfl) 4 rfl ?_
          refine x_iconst (pc := 863) (v := 1) C (by decide) (d_L_law 522 rfl) ?_
          refine x_iadd (pc := 864) C (d_L_law 523 rfl) ?_
          by_cases b259 : x_in (x4 + (1 : Int32)) N
          · rw [if_pos b259] at h
            refine x_sld (pc := 865) C hX hbl (Nat.not_le.mpr hbl) (x_in_n b259) (d_L_law 524 rfl) ?_
            refine x_aload_n (pc := 866) C (d_L_law 525 rfl) rfl 0 rfl ?_
            refine x_iload (pc := 867) C (d_L_law 526 rfl) 4 rfl ?_
            refine x_iconst (pc := 869) (v := 2) C (by decide) (d_L_law 527 rfl) ?_
            refine x_iadd (pc := 870) C (d_L_law 528 rfl) ?_
            by_cases b260 : x_in (x4 + (2 : Int32)) N
            · rw [if_pos b260] at h
              refine x_sld (pc := 871) C hX hbl (Nat.not_le.mpr hbl) (x_in_n b260) (d_L_law 529 rfl) ?_
              refine x_aload_n (pc := 872) C (d_L_law 530 rfl) rfl 3 rfl ?_
              cases c261 : f_L_unlink (x1) (xs (x4 + (1 : Int32)).toNatClampNeg) (xs (x4 + (2 : Int32)).toNatClampNeg) (x3) st with
              | none => rw [c261] at h; cases h
              | some w281 =>
                obtain ⟨v262, st263⟩ := w281
                rw [c261] at h
                dsimp only at h
                refine x_callS (mc := 1) (ms := 6) (pc := 873) (aL := [xR 0 (x1), xI (xs (x4 + (1 : Int32)).toNatClampNeg), xI (xs (x4 + (2 : Int32)).toNatClampNeg), xR 64 (x3)]) (K := []) C cs_L_107 (m_L_unlink l hfl c261 : x_M l _ _ _ _ (.inl (some (xI v262))) _ 1 6) ⟨by decide, by decide, by show _ + 1 ≤ 601024; omega, by show _ + 6 ≤ 7293034; omega⟩ rfl (Nat.le_of_ble_eq_true rfl) (d_L_law 531 rfl) ?_
                refine x_istore (pc := 876) (L2 := [(5, xI (v262)), (0, xA (b)), (1, xR 0 (x1)), (2, xR 32 (x2)), (3, xR 64 (x3)), (4, xI (x4))]) C (d_L_law 532 rfl) (by decide) rfl ?_
                refine x_aload_n (pc := 878) C (d_L_law 533 rfl) rfl 3 rfl ?_
                refine x_aload_n (pc := 879) C (d_L_law 534 rfl) rfl 1 rfl ?_
                refine x_iload (pc := 880) C (d_L_law 535 rfl) 5 rfl ?_
                refine x_iconst (pc := 882) (v := 1) C (by decide) (d_L_law 536 rfl) ?_
                refine x_iadd (pc := 883) C (d_L_law 537 rfl) ?_
                by_cases b264 : x_in (x4 + (1 : Int32)) N
                · rw [if_pos b264] at h
                  refine x_sld (pc := 884) C hX hbl (Nat.not_le.mpr hbl) (x_in_n b264) (d_L_law 538 rfl) ?_
                  refine x_aload_n (pc := 885) C (d_L_law 539 rfl) rfl 1 rfl ?_
                  refine x_iload (pc := 886) C (d_L_law 540 rfl) 5 rfl ?_
                  refine x_iconst (pc := 888) (v := 2) C (by decide) (d_L_law 541 rfl) ?_
                  refine x_iadd (pc := 889) C (d_L_law 542 rfl) ?_
                  by_cases b265 : x_in (x4 + (2 : Int32)) N
                  · rw [if_pos b265] at h
                    refine x_sld (pc := 890) C hX hbl (Nat.not_le.mpr hbl) (x_in_n b265) (d_L_law 543 rfl) ?_
                    cases c267 : x2 with
                    | none => rw [c267] at h; cases h
                    | some i266 =>
                      rw [c267] at h
                      dsimp only at h
                      cases c268 : f_M_unlink i266 (xs (x4 + (1 : Int32)).toNatClampNeg) (xs (x4 + (2 : Int32)).toNatClampNeg) st263 with
                      | none => rw [c268] at h; cases h
                      | some w280 =>
                        obtain ⟨v269, st270⟩ := w280
                        rw [c268] at h
                        dsimp only at h
                        refine x_callV (mc := 0) (ms := 0) (pc := 891) (bL := [xI (xs (x4 + (1 : Int32)).toNatClampNeg), xI (xs (x4 + (2 : Int32)).toNatClampNeg)]) (K := []) C cs_L_109 (m_M_unlink l c268 : x_M l _ _ _ _ (.inl (some (xI v269))) _ 0 0) ⟨by decide, by decide, by show _ + 0 ≤ 601024; omega, by show _ + 0 ≤ 7293034; omega⟩ rfl (Nat.le_of_ble_eq_true rfl) (d_L_law 544 rfl) ?_
                        refine x_istore (pc := 894) (L2 := [(6, xI (v269)), (5, xI (v262)), (0, xA (b)), (1, xR 0 (x1)), (2, xR 32 (some (i266))), (3, xR 64 (x3)), (4, xI (x4))]) C (d_L_law 545 rfl) (by decide) rfl ?_
                        refine x_aload_n (pc := 896) C (d_L_law 546 rfl) rfl 4 rfl ?_
                        cases c271 : f_M_thrown i266 st270 with
                        | none => rw [c271] at h; cases h
                        | some v272 =>
                          rw [c271] at h
                          dsimp only at h
                          refine x_callV (mc := 0) (ms := 0) (pc := 897) (bL := []) (K := []) C cs_L_69 (m_M_thrown l c271 : x_M l _ _ _ _ (.inl (some (xI v272))) _ 0 0) ⟨by decide, by decide, by show _ + 0 ≤ 601024; omega, by show _ + 0 ≤ 7293034; omega⟩ rfl (Nat.le_of_ble_eq_true rfl) (d_L_law 547 rfl) ?_
                          refine x_iload (pc := 900) C (d_L_law 548 rfl) 1 rfl ?_
                          refine x_icmp_eq (pc := 902) (tgt := 907) C (d_L_law 549 rfl) (by decide) (fun c273 => ?_) (fun c273 => ?_)
                          · rw [if_pos c273] at h
                            refine x_iload (pc := 907) C (d_L_law 552 rfl) 1 rfl ?_
                            refine x_if_ne (pc := 909) (tgt := 924) C (d_L_law 553 rfl) (by decide) (fun c274 => ?_) (fun c274 => ?_)
                            · rw [if_neg c274] at h
                              refine x_goto (pc := 924) (tgt := 1199) C (d_L_law 563 rfl) (by decide) ?_
                              refine x_iinc (pc := 1199) (v := x4 + 6) (L2 := [(4, xI (x4 + 6)), (6, xI (v269)), (5, xI (v262)), (0, xA (b)), (1, xR 0 (x1)), (2, xR 32 (some (i266))), (3, xR 64 (x3))]) C (d_L_law 752 rfl) 6 rfl rfl (by decide) rfl ?_
                              refine x_goto (pc := 1202) (tgt := 23) C (d_L_law 753 rfl) (by decide) ?_
                              exact x_sub [3, 4, 5, 6, 0] rfl (ih _ _ _ _ _ _ _ (by omega) (by omega) h)
                            · rw [if_pos c274] at h
                              refine x_aload_n (pc := 912) C (d_L_law 554 rfl) rfl 5 rfl ?_
                              refine x_iconst (pc := 913) (v := 0) C (by decide) (d_L_law 555 rfl) ?_
                              cases c276 : x3 with
                              | none => rw [c276] at h; cases h
                              | some i275 =>
                                rw [c276] at h
                                dsimp only at h
                                by_cases b277 : x_in 0 1
                                · rw [if_pos b277] at h
                                  refine x_lald (pc := 914) C ar_64 b277 (d_L_law 556 rfl) ?_
                                  refine x_iload (pc := 915) C (d_L_law 557 rfl) 0 rfl ?_
                                  refine x_i2l (pc := 917) C (d_L_law 558 rfl) ?_
                                  refine x_lcmp (pc := 918) C (d_L_law 559 rfl) ?_
                                  refine x_if_eq (pc := 919) (tgt := 924) C (d_L_law 560 rfl) (by decide) (fun c278 => ?_) (fun c278 => ?_)
                                  · rw [if_pos c278] at h
                                    refine x_goto (pc := 924) (tgt := 1199) C (d_L_law 563 rfl) (by decide) ?_
                                    refine x_iinc (pc := 1199) (v := x4 + 6) (L2 := [(4, xI (x4 + 6)), (6, xI (v269)), (5, xI (v262)), (0, xA (b)), (1, xR 0 (x1)), (2, xR 32 (some (i266))), (3, xR 64 (some (i275)))]) C (d_L_law 752 rfl) 6 rfl rfl (by decide) rfl ?_
                                    refine x_goto (pc := 1202) (tgt := 23) C (d_L_law 753 rfl) (by decide) ?_
                                    exact x_sub [3, 4, 5, 6, 0] rfl (ih _ _ _ _ _ _ _ (by omega) (by omega) h)
                                  · rw [if_neg c278] at h
                                    refine x_iconst (pc := 922) (v := 0) C (by decide) (d_L_law 561 rfl) ?_
                                    exact absurd (Option.some.inj h) (by decide)
                                · rw [if_neg b277] at h; cases h
                          · rw [if_neg c273] at h
                            refine x_iconst (pc := 905) (v := 0) C (by decide) (d_L_law 550 rfl) ?_
                            exact absurd (Option.some.inj h) (by decide)
                  · rw [if_neg b265] at h; cases h
                · rw [if_neg b264] at h; cases h
            · rw [if_neg b260] at h; cases h
          · rw [if_neg b259] at h; cases h
        rw [if_neg c258] at h
        by_cases c282 : ((xs x4.toNatClampNeg) &&& (31 : Int32)) = 12
        · rw [if_pos c282] at h
          refine x_tsw (pc := 40) (v := 12) (tgt := 927) C (d_L_law 24 rfl) c282 (by decide) (by decide) rfl (by decide) ?_
          refine x_aload_n (pc := 927) C (d_L_law 564 rfl) rfl 1 rfl ?_
          refine x_aload_n (pc := 928) C (d_L_law 565 rfl) rfl 0 rfl ?_
          refine x_iload (pc := 929) C (d_L_law 566 rfl) 4 rfl ?_
          refine x_iconst (pc := 931) (v := 1) C (by decide) (d_L_law 567 rfl) ?_
          refine x_iadd (pc := 932) C (d_L_law 568 rfl) ?_
          by_cases b283 : x_in (x4 + (1 : Int32)) N
          · rw [if_pos b283] at h
            refine x_sld (pc := 933) C hX hbl (Nat.not_le.mpr hbl) (x_in_n b283) (d_L_law 569 rfl) ?_
            refine x_aload_n (pc := 934) C (d_L_law 570 rfl) rfl 0 rfl ?_
            refine x_iload (pc := 935) C (d_L_law 571 rfl) 4 rfl ?_
            refine x_iconst (pc := 937) (v := 2) C (by decide) (d_L_law 572 rfl) ?_
            refine x_iadd (pc := 938) C (d_L_law 573 rfl) ?_
            by_cases b284 : x_in (x4 + (2 : Int32)) N
            · rw [if_pos b284] at h
              refine x_sld (pc := 939) C hX hbl (Nat.not_le.mpr hbl) (x_in_n b284) (d_L_law 574 rfl) ?_
              refine x_aload_n (pc := 940) C (d_L_law 575 rfl) rfl 0 rfl ?_
              refine x_iload (pc := 941) C (d_L_law 576 rfl) 4 rfl ?_
              refine x_iconst (pc := 943) (v := 3) C (by decide) (d_L_law 577 rfl) ?_
              refine x_iadd (pc := 944) C (d_L_law 578 rfl) ?_
              by_cases b285 : x_in (x4 + (3 : Int32)) N
              · rw [if_pos b285] at h
                refine x_sld (pc := 945) C hX hbl (Nat.not_le.mpr hbl) (x_in_n b285) (d_L_law 579 rfl) ?_
                refine x_aload_n (pc := 946) C (d_L_law 580 rfl) rfl 3 rfl ?_
                cases c286 : f_L_rename (x1) (xs (x4 + (1 : Int32)).toNatClampNeg) (xs (x4 + (2 : Int32)).toNatClampNeg) (xs (x4 + (3 : Int32)).toNatClampNeg) (x3) st with
                | none => rw [c286] at h; cases h
                | some w307 =>
                  obtain ⟨v287, st288⟩ := w307
                  rw [c286] at h
                  dsimp only at h
                  refine x_callS (mc := 1) (ms := 6) (pc := 947) (aL := [xR 0 (x1), xI (xs (x4 + (1 : Int32)).toNatClampNeg), xI (xs (x4 + (2 : Int32)).toNatClampNeg), xI (xs (x4 + (3 : Int32)).toNatClampNeg), xR 64 (x3)]) (K := []) C cs_L_110 (m_L_rename l hfl c286 : x_M l _ _ _ _ (.inl (some (xI v287))) _ 1 6) ⟨by decide, by decide, by show _ + 1 ≤ 601024; omega, by show _ + 6 ≤ 7293034; omega⟩ rfl (Nat.le_of_ble_eq_true rfl) (d_L_law 581 rfl) ?_
                  refine x_istore (pc := 950) (L2 := [(5, xI (v287)), (0, xA (b)), (1, xR 0 (x1)), (2, xR 32 (x2)), (3, xR 64 (x3)), (4, xI (x4))]) C (d_L_law 582 rfl) (by decide) rfl ?_
                  refine x_aload_n (pc := 952) C (d_L_law 583 rfl) rfl 3 rfl ?_
                  refine x_aload_n (pc := 953) C (d_L_law 584 rfl) rfl 1 rfl ?_
                  refine x_iload (pc := 954) C (d_L_law 585 rfl) 5 rfl ?_
                  refine x_iconst (pc := 956) (v := 1) C (by decide) (d_L_law 586 rfl) ?_
                  refine x_iadd (pc := 957) C (d_L_law 587 rfl) ?_
                  by_cases b289 : x_in (x4 + (1 : Int32)) N
                  · rw [if_pos b289] at h
                    refine x_sld (pc := 958) C hX hbl (Nat.not_le.mpr hbl) (x_in_n b289) (d_L_law 588 rfl) ?_
                    refine x_aload_n (pc := 959) C (d_L_law 589 rfl) rfl 1 rfl ?_
                    refine x_iload (pc := 960) C (d_L_law 590 rfl) 5 rfl ?_
                    refine x_iconst (pc := 962) (v := 2) C (by decide) (d_L_law 591 rfl) ?_
                    refine x_iadd (pc := 963) C (d_L_law 592 rfl) ?_
                    by_cases b290 : x_in (x4 + (2 : Int32)) N
                    · rw [if_pos b290] at h
                      refine x_sld (pc := 964) C hX hbl (Nat.not_le.mpr hbl) (x_in_n b290) (d_L_law 593 rfl) ?_
                      refine x_aload_n (pc := 965) C (d_L_law 594 rfl) rfl 1 rfl ?_
                      refine x_iload (pc := 966) C (d_L_law 595 rfl) 5 rfl ?_
                      refine x_iconst (pc := 968) (v := 3) C (by decide) (d_L_law 596 rfl) ?_
                      refine x_iadd (pc := 969) C (d_L_law 597 rfl) ?_
                      by_cases b291 : x_in (x4 + (3 : Int32)) N
                      · rw [if_pos b291] at h
                        refine x_sld (pc := 970) C hX hbl (Nat.not_le.mpr hbl) (x_in_n b291) (d_L_law 598 rfl) ?_
                        cases c293 : x2 with
                        | none => rw [c293] at h; cases h
                        | some i292 =>
                          rw [c293] at h
                          dsimp only at h
                          cases c294 : f_M_rename i292 (xs (x4 + (1 : Int32)).toNatClampNeg) (xs (x4 + (2 : Int32)).toNatClampNeg) (xs (x4 + (3 : Int32)).toNatClampNeg) st288 with
                          | none => rw [c294] at h; cases h
                          | some w306 =>
                            obtain ⟨v295, st296⟩ := w306
                            rw [c294] at h
                            dsimp only at h
                            refine x_callV (mc := 0) (ms := 0) (pc := 971) (bL := [xI (xs (x4 + (1 : Int32)).toNatClampNeg), xI (xs (x4 + (2 : Int32)).toNatClampNeg), xI (xs (x4 + (3 : Int32)).toNatClampNeg)]) (K := []) C cs_L_112 (m_M_rename l c294 : x_M l _ _ _ _ (.inl (some (xI v295))) _ 0 0) ⟨by decide, by decide, by show _ + 0 ≤ 601024; omega, by show _ + 0 ≤ 7293034; omega⟩ rfl (Nat.le_of_ble_eq_true rfl) (d_L_law 599 rfl) ?_
                            refine x_istore (pc := 974) (L2 := [(6, xI (v295)), (5, xI (v287)), (0, xA (b)), (1, xR 0 (x1)), (2, xR 32 (some (i292))), (3, xR 64 (x3)), (4, xI (x4))]) C (d_L_law 600 rfl) (by decide) rfl ?_
                            refine x_aload_n (pc := 976) C (d_L_law 601 rfl) rfl 4 rfl ?_
                            cases c297 : f_M_thrown i292 st296 with
                            | none => rw [c297] at h; cases h
                            | some v298 =>
                              rw [c297] at h
                              dsimp only at h
                              refine x_callV (mc := 0) (ms := 0) (pc := 977) (bL := []) (K := []) C cs_L_69 (m_M_thrown l c297 : x_M l _ _ _ _ (.inl (some (xI v298))) _ 0 0) ⟨by decide, by decide, by show _ + 0 ≤ 601024; omega, by show _ + 0 ≤ 7293034; omega⟩ rfl (Nat.le_of_ble_eq_true rfl) (d_L_law 602 rfl) ?_
                              refine x_iload (pc := 980) C (d_L_law 603 rfl) 1 rfl ?_
                              refine x_icmp_eq (pc := 982) (tgt := 987) C (d_L_law 604 rfl) (by decide) (fun c299 => ?_) (fun c299 => ?_)
                              · rw [if_pos c299] at h
                                refine x_iload (pc := 987) C (d_L_law 607 rfl) 1 rfl ?_
                                refine x_if_ne (pc := 989) (tgt := 1004) C (d_L_law 608 rfl) (by decide) (fun c300 => ?_) (fun c300 => ?_)
                                · rw [if_neg c300] at h
                                  refine x_goto (pc := 1004) (tgt := 1199) C (d_L_law 618 rfl) (by decide) ?_
                                  refine x_iinc (pc := 1199) (v := x4 + 6) (L2 := [(4, xI (x4 + 6)), (6, xI (v295)), (5, xI (v287)), (0, xA (b)), (1, xR 0 (x1)), (2, xR 32 (some (i292))), (3, xR 64 (x3))]) C (d_L_law 752 rfl) 6 rfl rfl (by decide) rfl ?_
                                  refine x_goto (pc := 1202) (tgt := 23) C (d_L_law 753 rfl) (by decide) ?_
                                  exact x_sub [3, 4, 5, 6, 0] rfl (ih _ _ _ _ _ _ _ (by omega) (by omega) h)
                                · rw [if_pos c300] at h
                                  refine x_aload_n (pc := 992) C (d_L_law 609 rfl) rfl 5 rfl ?_
                                  refine x_iconst (pc := 993) (v := 0) C (by decide) (d_L_law 610 rfl) ?_
                                  cases c302 : x3 with
                                  | none => rw [c302] at h; cases h
                                  | some i301 =>
                                    rw [c302] at h
                                    dsimp only at h
                                    by_cases b303 : x_in 0 1
                                    · rw [if_pos b303] at h
                                      refine x_lald (pc := 994) C ar_64 b303 (d_L_law 611 rfl) ?_
                                      refine x_iload (pc := 995) C (d_L_law 612 rfl) 0 rfl ?_
                                      refine x_i2l (pc := 997) C (d_L_law 613 rfl) ?_
                                      refine x_lcmp (pc := 998) C (d_L_law 614 rfl) ?_
                                      refine x_if_eq (pc := 999) (tgt := 1004) C (d_L_law 615 rfl) (by decide) (fun c304 => ?_) (fun c304 => ?_)
                                      · rw [if_pos c304] at h
                                        refine x_goto (pc := 1004) (tgt := 1199) C (d_L_law 618 rfl) (by decide) ?_
                                        refine x_iinc (pc := 1199) (v := x4 + 6) (L2 := [(4, xI (x4 + 6)), (6, xI (v295)), (5, xI (v287)), (0, xA (b)), (1, xR 0 (x1)), (2, xR 32 (some (i292))), (3, xR 64 (some (i301)))]) C (d_L_law 752 rfl) 6 rfl rfl (by decide) rfl ?_
                                        refine x_goto (pc := 1202) (tgt := 23) C (d_L_law 753 rfl) (by decide) ?_
                                        exact x_sub [3, 4, 5, 6, 0] rfl (ih _ _ _ _ _ _ _ (by omega) (by omega) h)
                                      · rw [if_neg c304] at h
                                        refine x_iconst (pc := 1002) (v := 0) C (by decide) (d_L_law 616 rfl) ?_
                                        exact absurd (Option.some.inj h) (by decide)
                                    · rw [if_neg b303] at h; cases h
                              · rw [if_neg c299] at h
                                refine x_iconst (pc := 985) (v := 0) C (by decide) (d_L_law 605 rfl) ?_
                                exact absurd (Option.some.inj h) (by decide)
                      · rw [if_neg b291] at h; cases h
                    · rw [if_neg b290] at h; cases h
                  · rw [if_neg b289] at h; cases h
              · rw [if_neg b285] at h; cases h
            · rw [if_neg b284] at h; cases h
          · rw [if_neg b283] at h; cases h
        rw [if_neg c282] at h
        by_cases c308 : ((xs x4.toNatClampNeg) &&& (31 : Int32)) = 13
        · rw [if_pos c308] at h
          refine x_tsw (pc := 40) (v := 13) (tgt := 1007) C (d_L_law 24 rfl) c308 (by decide) (by decide) rfl (by decide) ?_
          refine x_aload_n (pc := 1007) C (d_L_law 619 rfl) rfl 1 rfl ?_
          refine x_aload_n (pc := 1008) C (d_L_law 620 rfl) rfl 0 rfl ?_
          refine x_iload (pc := 1009) C (d_L_law 621 rfl) 4 rfl ?_
          refine x_iconst (pc := 1011) (v := 1) C (by decide) (d_L_law 622 rfl) ?_
          refine x_iadd (pc := 1012) C (d_L_law 623 rfl) ?_
          by_cases b309 : x_in (x4 + (1 : Int32)) N
          · rw [if_pos b309] at h
            refine x_sld (pc := 1013) C hX hbl (Nat.not_le.mpr hbl) (x_in_n b309) (d_L_law 624 rfl) ?_
            refine x_aload_n (pc := 1014) C (d_L_law 625 rfl) rfl 3 rfl ?_
            cases c310 : f_L_type (x1) (xs (x4 + (1 : Int32)).toNatClampNeg) (x3) st with
            | none => rw [c310] at h; cases h
            | some w329 =>
              obtain ⟨v311, st312⟩ := w329
              rw [c310] at h
              dsimp only at h
              refine x_callS (mc := 1) (ms := 6) (pc := 1015) (aL := [xR 0 (x1), xI (xs (x4 + (1 : Int32)).toNatClampNeg), xR 64 (x3)]) (K := []) C cs_L_113 (m_L_type l hfl c310 : x_M l _ _ _ _ (.inl (some (xI v311))) _ 1 6) ⟨by decide, by decide, by show _ + 1 ≤ 601024; omega, by show _ + 6 ≤ 7293034; omega⟩ rfl (Nat.le_of_ble_eq_true rfl) (d_L_law 626 rfl) ?_
              refine x_istore (pc := 1018) (L2 := [(5, xI (v311)), (0, xA (b)), (1, xR 0 (x1)), (2, xR 32 (x2)), (3, xR 64 (x3)), (4, xI (x4))]) C (d_L_law 627 rfl) (by decide) rfl ?_
              refine x_aload_n (pc := 1020) C (d_L_law 628 rfl) rfl 3 rfl ?_
              refine x_aload_n (pc := 1021) C (d_L_law 629 rfl) rfl 1 rfl ?_
              refine x_iload (pc := 1022) C (d_L_law 630 rfl) 5 rfl ?_
              refine x_iconst (pc := 1024) (v := 1) C (by decide) (d_L_law 631 rfl) ?_
              refine x_iadd (pc := 1025) C (d_L_law 632 rfl) ?_
              by_cases b313 : x_in (x4 + (1 : Int32)) N
              · rw [if_pos b313] at h
                refine x_sld (pc := 1026) C hX hbl (Nat.not_le.mpr hbl) (x_in_n b313) (d_L_law 633 rfl) ?_
                cases c315 : x2 with
                | none => rw [c315] at h; cases h
                | some i314 =>
                  rw [c315] at h
                  dsimp only at h
                  cases c316 : f_M_type i314 (xs (x4 + (1 : Int32)).toNatClampNeg) st312 with
                  | none => rw [c316] at h; cases h
                  | some w328 =>
                    obtain ⟨v317, st318⟩ := w328
                    rw [c316] at h
                    dsimp only at h
                    refine x_callV (mc := 0) (ms := 0) (pc := 1027) (bL := [xI (xs (x4 + (1 : Int32)).toNatClampNeg)]) (K := []) C cs_L_115 (m_M_type l c316 : x_M l _ _ _ _ (.inl (some (xI v317))) _ 0 0) ⟨by decide, by decide, by show _ + 0 ≤ 601024; omega, by show _ + 0 ≤ 7293034; omega⟩ rfl (Nat.le_of_ble_eq_true rfl) (d_L_law 634 rfl) ?_
                    refine x_istore (pc := 1030) (L2 := [(6, xI (v317)), (5, xI (v311)), (0, xA (b)), (1, xR 0 (x1)), (2, xR 32 (some (i314))), (3, xR 64 (x3)), (4, xI (x4))]) C (d_L_law 635 rfl) (by decide) rfl ?_
                    refine x_aload_n (pc := 1032) C (d_L_law 636 rfl) rfl 4 rfl ?_
                    cases c319 : f_M_thrown i314 st318 with
                    | none => rw [c319] at h; cases h
                    | some v320 =>
                      rw [c319] at h
                      dsimp only at h
                      refine x_callV (mc := 0) (ms := 0) (pc := 1033) (bL := []) (K := []) C cs_L_69 (m_M_thrown l c319 : x_M l _ _ _ _ (.inl (some (xI v320))) _ 0 0) ⟨by decide, by decide, by show _ + 0 ≤ 601024; omega, by show _ + 0 ≤ 7293034; omega⟩ rfl (Nat.le_of_ble_eq_true rfl) (d_L_law 637 rfl) ?_
                      refine x_iload (pc := 1036) C (d_L_law 638 rfl) 1 rfl ?_
                      refine x_icmp_eq (pc := 1038) (tgt := 1043) C (d_L_law 639 rfl) (by decide) (fun c321 => ?_) (fun c321 => ?_)
                      · rw [if_pos c321] at h
                        refine x_iload (pc := 1043) C (d_L_law 642 rfl) 1 rfl ?_
                        refine x_if_ne (pc := 1045) (tgt := 1060) C (d_L_law 643 rfl) (by decide) (fun c322 => ?_) (fun c322 => ?_)
                        · rw [if_neg c322] at h
                          refine x_goto (pc := 1060) (tgt := 1199) C (d_L_law 653 rfl) (by decide) ?_
                          refine x_iinc (pc := 1199) (v := x4 + 6) (L2 := [(4, xI (x4 + 6)), (6, xI (v317)), (5, xI (v311)), (0, xA (b)), (1, xR 0 (x1)), (2, xR 32 (some (i314))), (3, xR 64 (x3))]) C (d_L_law 752 rfl) 6 rfl rfl (by decide) rfl ?_
                          refine x_goto (pc := 1202) (tgt := 23) C (d_L_law 753 rfl) (by decide) ?_
                          exact x_sub [3, 4, 5, 6, 0] rfl (ih _ _ _ _ _ _ _ (by omega) (by omega) h)
                        · rw [if_pos c322] at h
                          refine x_aload_n (pc := 1048) C (d_L_law 644 rfl) rfl 5 rfl ?_
                          refine x_iconst (pc := 1049) (v := 0) C (by decide) (d_L_law 645 rfl) ?_
                          cases c324 : x3 with
                          | none => rw [c324] at h; cases h
                          | some i323 =>
                            rw [c324] at h
                            dsimp only at h
                            by_cases b325 : x_in 0 1
                            · rw [if_pos b325] at h
                              refine x_lald (pc := 1050) C ar_64 b325 (d_L_law 646 rfl) ?_
                              refine x_iload (pc := 1051) C (d_L_law 647 rfl) 0 rfl ?_
                              refine x_i2l (pc := 1053) C (d_L_law 648 rfl) ?_
                              refine x_lcmp (pc := 1054) C (d_L_law 649 rfl) ?_
                              refine x_if_eq (pc := 1055) (tgt := 1060) C (d_L_law 650 rfl) (by decide) (fun c326 => ?_) (fun c326 => ?_)
                              · rw [if_pos c326] at h
                                refine x_goto (pc := 1060) (tgt := 1199) C (d_L_law 653 rfl) (by decide) ?_
                                refine x_iinc (pc := 1199) (v := x4 + 6) (L2 := [(4, xI (x4 + 6)), (6, xI (v317)), (5, xI (v311)), (0, xA (b)), (1, xR 0 (x1)), (2, xR 32 (some (i314))), (3, xR 64 (some (i323)))]) C (d_L_law 752 rfl) 6 rfl rfl (by decide) rfl ?_
                                refine x_goto (pc := 1202) (tgt := 23) C (d_L_law 753 rfl) (by decide) ?_
                                exact x_sub [3, 4, 5, 6, 0] rfl (ih _ _ _ _ _ _ _ (by omega) (by omega) h)
                              · rw [if_neg c326] at h
                                refine x_iconst (pc := 1058) (v := 0) C (by decide) (d_L_law 651 rfl) ?_
                                exact absurd (Option.some.inj h) (by decide)
                            · rw [if_neg b325] at h; cases h
                      · rw [if_neg c321] at h
                        refine x_iconst (pc := 1041) (v := 0) C (by decide) (d_L_law 640 rfl) ?_
                        exact absurd (Option.some.inj h) (by decide)
              · rw [if_neg b313] at h; cases h
          · rw [if_neg b309] at h; cases h
        rw [if_neg c308] at h
        by_cases c330 : ((xs x4.toNatClampNeg) &&& (31 : Int32)) = 14
        · rw [if_pos c330] at h
          refine x_tsw (pc := 40) (v := 14) (tgt := 1063) C (d_L_law 24 rfl) c330 (by decide) (by decide) rfl (by decide) ?_
          refine x_aload_n (pc := 1063) C (d_L_law 654 rfl) rfl 1 rfl ?_
          refine x_aload_n (pc := 1064) C (d_L_law 655 rfl) rfl 0 rfl ?_
          refine x_iload (pc := 1065) C (d_L_law 656 rfl) 4 rfl ?_
          refine x_iconst (pc := 1067) (v := 1) C (by decide) (d_L_law 657 rfl) ?_
          refine x_iadd (pc := 1068) C (d_L_law 658 rfl) ?_
          by_cases b331 : x_in (x4 + (1 : Int32)) N
          · rw [if_pos b331] at h
            refine x_sld (pc := 1069) C hX hbl (Nat.not_le.mpr hbl) (x_in_n b331) (d_L_law 659 rfl) ?_
            cases c333 : x1 with
            | none => rw [c333] at h; cases h
            | some i332 =>
              rw [c333] at h
              dsimp only at h
              cases c334 : f_D_shown i332 (xs (x4 + (1 : Int32)).toNatClampNeg) st with
              | none => rw [c334] at h; cases h
              | some v335 =>
                rw [c334] at h
                dsimp only at h
                refine x_callV (mc := 0) (ms := 0) (pc := 1070) (bL := [xI (xs (x4 + (1 : Int32)).toNatClampNeg)]) (K := []) C cs_L_116 (m_D_shown l c334 : x_M l _ _ _ _ (.inl (some (xI v335))) _ 0 0) ⟨by decide, by decide, by show _ + 0 ≤ 601024; omega, by show _ + 0 ≤ 7293034; omega⟩ rfl (Nat.le_of_ble_eq_true rfl) (d_L_law 660 rfl) ?_
                refine x_aload_n (pc := 1073) C (d_L_law 661 rfl) rfl 2 rfl ?_
                refine x_aload_n (pc := 1074) C (d_L_law 662 rfl) rfl 0 rfl ?_
                refine x_iload (pc := 1075) C (d_L_law 663 rfl) 4 rfl ?_
                refine x_iconst (pc := 1077) (v := 1) C (by decide) (d_L_law 664 rfl) ?_
                refine x_iadd (pc := 1078) C (d_L_law 665 rfl) ?_
                by_cases b336 : x_in (x4 + (1 : Int32)) N
                · rw [if_pos b336] at h
                  refine x_sld (pc := 1079) C hX hbl (Nat.not_le.mpr hbl) (x_in_n b336) (d_L_law 666 rfl) ?_
                  cases c338 : x2 with
                  | none => rw [c338] at h; cases h
                  | some i337 =>
                    rw [c338] at h
                    dsimp only at h
                    cases c339 : f_M_shown i337 (xs (x4 + (1 : Int32)).toNatClampNeg) st with
                    | none => rw [c339] at h; cases h
                    | some w343 =>
                      obtain ⟨v340, st341⟩ := w343
                      rw [c339] at h
                      dsimp only at h
                      refine x_callV (mc := 0) (ms := 0) (pc := 1080) (bL := [xI (xs (x4 + (1 : Int32)).toNatClampNeg)]) (K := [xI (v335)]) C cs_L_119 (m_M_shown l c339 : x_M l _ _ _ _ (.inl (some (xI v340))) _ 0 0) ⟨by decide, by decide, by show _ + 0 ≤ 601024; omega, by show _ + 0 ≤ 7293034; omega⟩ rfl (Nat.le_of_ble_eq_true rfl) (d_L_law 667 rfl) ?_
                      refine x_icmp_eq (pc := 1083) (tgt := 1199) C (d_L_law 668 rfl) (by decide) (fun c342 => ?_) (fun c342 => ?_)
                      · rw [if_pos c342] at h
                        refine x_iinc (pc := 1199) (v := x4 + 6) (L2 := [(4, xI (x4 + 6)), (0, xA (b)), (1, xR 0 (some (i332))), (2, xR 32 (some (i337))), (3, xR 64 (x3))]) C (d_L_law 752 rfl) 4 rfl rfl (by decide) rfl ?_
                        refine x_goto (pc := 1202) (tgt := 23) C (d_L_law 753 rfl) (by decide) ?_
                        exact x_sub [1, 2, 3, 4, 0] rfl (ih _ _ _ _ _ _ _ (by omega) (by omega) h)
                      · rw [if_neg c342] at h
                        refine x_iconst (pc := 1086) (v := 0) C (by decide) (d_L_law 669 rfl) ?_
                        exact absurd (Option.some.inj h) (by decide)
                · rw [if_neg b336] at h; cases h
          · rw [if_neg b331] at h; cases h
        rw [if_neg c330] at h
        by_cases c345 : ((xs x4.toNatClampNeg) &&& (31 : Int32)) = 15
        · rw [if_pos c345] at h
          refine x_tsw (pc := 40) (v := 15) (tgt := 1088) C (d_L_law 24 rfl) c345 (by decide) (by decide) rfl (by decide) ?_
          refine x_aload_n (pc := 1088) C (d_L_law 671 rfl) rfl 1 rfl ?_
          refine x_aload_n (pc := 1089) C (d_L_law 672 rfl) rfl 0 rfl ?_
          refine x_iload (pc := 1090) C (d_L_law 673 rfl) 4 rfl ?_
          refine x_iconst (pc := 1092) (v := 1) C (by decide) (d_L_law 674 rfl) ?_
          refine x_iadd (pc := 1093) C (d_L_law 675 rfl) ?_
          by_cases b346 : x_in (x4 + (1 : Int32)) N
          · rw [if_pos b346] at h
            refine x_sld (pc := 1094) C hX hbl (Nat.not_le.mpr hbl) (x_in_n b346) (d_L_law 676 rfl) ?_
            refine x_aload_n (pc := 1095) C (d_L_law 677 rfl) rfl 0 rfl ?_
            refine x_iload (pc := 1096) C (d_L_law 678 rfl) 4 rfl ?_
            refine x_iconst (pc := 1098) (v := 2) C (by decide) (d_L_law 679 rfl) ?_
            refine x_iadd (pc := 1099) C (d_L_law 680 rfl) ?_
            by_cases b347 : x_in (x4 + (2 : Int32)) N
            · rw [if_pos b347] at h
              refine x_sld (pc := 1100) C hX hbl (Nat.not_le.mpr hbl) (x_in_n b347) (d_L_law 681 rfl) ?_
              cases c349 : x1 with
              | none => rw [c349] at h; cases h
              | some i348 =>
                rw [c349] at h
                dsimp only at h
                cases c350 : f_D_state i348 (xs (x4 + (1 : Int32)).toNatClampNeg) (xs (x4 + (2 : Int32)).toNatClampNeg) st with
                | none => rw [c350] at h; cases h
                | some v351 =>
                  rw [c350] at h
                  dsimp only at h
                  refine x_callV (mc := 0) (ms := 0) (pc := 1101) (bL := [xI (xs (x4 + (1 : Int32)).toNatClampNeg), xI (xs (x4 + (2 : Int32)).toNatClampNeg)]) (K := []) C cs_L_120 (m_D_state l c350 : x_M l _ _ _ _ (.inl (some (xI v351))) _ 0 0) ⟨by decide, by decide, by show _ + 0 ≤ 601024; omega, by show _ + 0 ≤ 7293034; omega⟩ rfl (Nat.le_of_ble_eq_true rfl) (d_L_law 682 rfl) ?_
                  refine x_aload_n (pc := 1104) C (d_L_law 683 rfl) rfl 2 rfl ?_
                  refine x_aload_n (pc := 1105) C (d_L_law 684 rfl) rfl 0 rfl ?_
                  refine x_iload (pc := 1106) C (d_L_law 685 rfl) 4 rfl ?_
                  refine x_iconst (pc := 1108) (v := 1) C (by decide) (d_L_law 686 rfl) ?_
                  refine x_iadd (pc := 1109) C (d_L_law 687 rfl) ?_
                  by_cases b352 : x_in (x4 + (1 : Int32)) N
                  · rw [if_pos b352] at h
                    refine x_sld (pc := 1110) C hX hbl (Nat.not_le.mpr hbl) (x_in_n b352) (d_L_law 688 rfl) ?_
                    refine x_aload_n (pc := 1111) C (d_L_law 689 rfl) rfl 0 rfl ?_
                    refine x_iload (pc := 1112) C (d_L_law 690 rfl) 4 rfl ?_
                    refine x_iconst (pc := 1114) (v := 2) C (by decide) (d_L_law 691 rfl) ?_
                    refine x_iadd (pc := 1115) C (d_L_law 692 rfl) ?_
                    by_cases b353 : x_in (x4 + (2 : Int32)) N
                    · rw [if_pos b353] at h
                      refine x_sld (pc := 1116) C hX hbl (Nat.not_le.mpr hbl) (x_in_n b353) (d_L_law 693 rfl) ?_
                      cases c355 : x2 with
                      | none => rw [c355] at h; cases h
                      | some i354 =>
                        rw [c355] at h
                        dsimp only at h
                        cases c356 : f_M_state i354 (xs (x4 + (1 : Int32)).toNatClampNeg) (xs (x4 + (2 : Int32)).toNatClampNeg) st with
                        | none => rw [c356] at h; cases h
                        | some w360 =>
                          obtain ⟨v357, st358⟩ := w360
                          rw [c356] at h
                          dsimp only at h
                          refine x_callV (mc := 0) (ms := 0) (pc := 1117) (bL := [xI (xs (x4 + (1 : Int32)).toNatClampNeg), xI (xs (x4 + (2 : Int32)).toNatClampNeg)]) (K := [xI (v351)]) C cs_L_123 (m_M_state l c356 : x_M l _ _ _ _ (.inl (some (xI v357))) _ 0 0) ⟨by decide, by decide, by show _ + 0 ≤ 601024; omega, by show _ + 0 ≤ 7293034; omega⟩ rfl (Nat.le_of_ble_eq_true rfl) (d_L_law 694 rfl) ?_
                          refine x_icmp_eq (pc := 1120) (tgt := 1199) C (d_L_law 695 rfl) (by decide) (fun c359 => ?_) (fun c359 => ?_)
                          · rw [if_pos c359] at h
                            refine x_iinc (pc := 1199) (v := x4 + 6) (L2 := [(4, xI (x4 + 6)), (0, xA (b)), (1, xR 0 (some (i348))), (2, xR 32 (some (i354))), (3, xR 64 (x3))]) C (d_L_law 752 rfl) 4 rfl rfl (by decide) rfl ?_
                            refine x_goto (pc := 1202) (tgt := 23) C (d_L_law 753 rfl) (by decide) ?_
                            exact x_sub [1, 2, 3, 4, 0] rfl (ih _ _ _ _ _ _ _ (by omega) (by omega) h)
                          · rw [if_neg c359] at h
                            refine x_iconst (pc := 1123) (v := 0) C (by decide) (d_L_law 696 rfl) ?_
                            exact absurd (Option.some.inj h) (by decide)
                    · rw [if_neg b353] at h; cases h
                  · rw [if_neg b352] at h; cases h
            · rw [if_neg b347] at h; cases h
          · rw [if_neg b346] at h; cases h
        rw [if_neg c345] at h
        by_cases c362 : ((xs x4.toNatClampNeg) &&& (31 : Int32)) = 16
        · rw [if_pos c362] at h
          refine x_tsw (pc := 40) (v := 16) (tgt := 1125) C (d_L_law 24 rfl) c362 (by decide) (by decide) rfl (by decide) ?_
          refine x_aload_n (pc := 1125) C (d_L_law 698 rfl) rfl 1 rfl ?_
          refine x_aload_n (pc := 1126) C (d_L_law 699 rfl) rfl 0 rfl ?_
          refine x_iload (pc := 1127) C (d_L_law 700 rfl) 4 rfl ?_
          refine x_iconst (pc := 1129) (v := 1) C (by decide) (d_L_law 701 rfl) ?_
          refine x_iadd (pc := 1130) C (d_L_law 702 rfl) ?_
          by_cases b363 : x_in (x4 + (1 : Int32)) N
          · rw [if_pos b363] at h
            refine x_sld (pc := 1131) C hX hbl (Nat.not_le.mpr hbl) (x_in_n b363) (d_L_law 703 rfl) ?_
            refine x_aload_n (pc := 1132) C (d_L_law 704 rfl) rfl 0 rfl ?_
            refine x_iload (pc := 1133) C (d_L_law 705 rfl) 4 rfl ?_
            refine x_iconst (pc := 1135) (v := 2) C (by decide) (d_L_law 706 rfl) ?_
            refine x_iadd (pc := 1136) C (d_L_law 707 rfl) ?_
            by_cases b364 : x_in (x4 + (2 : Int32)) N
            · rw [if_pos b364] at h
              refine x_sld (pc := 1137) C hX hbl (Nat.not_le.mpr hbl) (x_in_n b364) (d_L_law 708 rfl) ?_
              refine x_aload_n (pc := 1138) C (d_L_law 709 rfl) rfl 0 rfl ?_
              refine x_iload (pc := 1139) C (d_L_law 710 rfl) 4 rfl ?_
              refine x_iconst (pc := 1141) (v := 3) C (by decide) (d_L_law 711 rfl) ?_
              refine x_iadd (pc := 1142) C (d_L_law 712 rfl) ?_
              by_cases b365 : x_in (x4 + (3 : Int32)) N
              · rw [if_pos b365] at h
                refine x_sld (pc := 1143) C hX hbl (Nat.not_le.mpr hbl) (x_in_n b365) (d_L_law 713 rfl) ?_
                cases c367 : x1 with
                | none => rw [c367] at h; cases h
                | some i366 =>
                  rw [c367] at h
                  dsimp only at h
                  cases c368 : f_D_about i366 (xs (x4 + (1 : Int32)).toNatClampNeg) (xs (x4 + (2 : Int32)).toNatClampNeg) (xs (x4 + (3 : Int32)).toNatClampNeg) st with
                  | none => rw [c368] at h; cases h
                  | some v369 =>
                    rw [c368] at h
                    dsimp only at h
                    refine x_callV (mc := 0) (ms := 0) (pc := 1144) (bL := [xI (xs (x4 + (1 : Int32)).toNatClampNeg), xI (xs (x4 + (2 : Int32)).toNatClampNeg), xI (xs (x4 + (3 : Int32)).toNatClampNeg)]) (K := []) C cs_L_124 (m_D_about l c368 : x_M l _ _ _ _ (.inl (some (xI v369))) _ 0 0) ⟨by decide, by decide, by show _ + 0 ≤ 601024; omega, by show _ + 0 ≤ 7293034; omega⟩ rfl (Nat.le_of_ble_eq_true rfl) (d_L_law 714 rfl) ?_
                    refine x_aload_n (pc := 1147) C (d_L_law 715 rfl) rfl 2 rfl ?_
                    refine x_aload_n (pc := 1148) C (d_L_law 716 rfl) rfl 0 rfl ?_
                    refine x_iload (pc := 1149) C (d_L_law 717 rfl) 4 rfl ?_
                    refine x_iconst (pc := 1151) (v := 1) C (by decide) (d_L_law 718 rfl) ?_
                    refine x_iadd (pc := 1152) C (d_L_law 719 rfl) ?_
                    by_cases b370 : x_in (x4 + (1 : Int32)) N
                    · rw [if_pos b370] at h
                      refine x_sld (pc := 1153) C hX hbl (Nat.not_le.mpr hbl) (x_in_n b370) (d_L_law 720 rfl) ?_
                      refine x_aload_n (pc := 1154) C (d_L_law 721 rfl) rfl 0 rfl ?_
                      refine x_iload (pc := 1155) C (d_L_law 722 rfl) 4 rfl ?_
                      refine x_iconst (pc := 1157) (v := 2) C (by decide) (d_L_law 723 rfl) ?_
                      refine x_iadd (pc := 1158) C (d_L_law 724 rfl) ?_
                      by_cases b371 : x_in (x4 + (2 : Int32)) N
                      · rw [if_pos b371] at h
                        refine x_sld (pc := 1159) C hX hbl (Nat.not_le.mpr hbl) (x_in_n b371) (d_L_law 725 rfl) ?_
                        refine x_aload_n (pc := 1160) C (d_L_law 726 rfl) rfl 0 rfl ?_
                        refine x_iload (pc := 1161) C (d_L_law 727 rfl) 4 rfl ?_
                        refine x_iconst (pc := 1163) (v := 3) C (by decide) (d_L_law 728 rfl) ?_
                        refine x_iadd (pc := 1164) C (d_L_law 729 rfl) ?_
                        by_cases b372 : x_in (x4 + (3 : Int32)) N
                        · rw [if_pos b372] at h
                          refine x_sld (pc := 1165) C hX hbl (Nat.not_le.mpr hbl) (x_in_n b372) (d_L_law 730 rfl) ?_
                          cases c374 : x2 with
                          | none => rw [c374] at h; cases h
                          | some i373 =>
                            rw [c374] at h
                            dsimp only at h
                            cases c375 : f_M_about i373 (xs (x4 + (1 : Int32)).toNatClampNeg) (xs (x4 + (2 : Int32)).toNatClampNeg) (xs (x4 + (3 : Int32)).toNatClampNeg) st with
                            | none => rw [c375] at h; cases h
                            | some w379 =>
                              obtain ⟨v376, st377⟩ := w379
                              rw [c375] at h
                              dsimp only at h
                              refine x_callV (mc := 0) (ms := 0) (pc := 1166) (bL := [xI (xs (x4 + (1 : Int32)).toNatClampNeg), xI (xs (x4 + (2 : Int32)).toNatClampNeg), xI (xs (x4 + (3 : Int32)).toNatClampNeg)]) (K := [xI (v369)]) C cs_L_127 (m_M_about l c375 : x_M l _ _ _ _ (.inl (some (xI v376))) _ 0 0) ⟨by decide, by decide, by show _ + 0 ≤ 601024; omega, by show _ + 0 ≤ 7293034; omega⟩ rfl (Nat.le_of_ble_eq_true rfl) (d_L_law 731 rfl) ?_
                              refine x_icmp_eq (pc := 1169) (tgt := 1199) C (d_L_law 732 rfl) (by decide) (fun c378 => ?_) (fun c378 => ?_)
                              · rw [if_pos c378] at h
                                refine x_iinc (pc := 1199) (v := x4 + 6) (L2 := [(4, xI (x4 + 6)), (0, xA (b)), (1, xR 0 (some (i366))), (2, xR 32 (some (i373))), (3, xR 64 (x3))]) C (d_L_law 752 rfl) 4 rfl rfl (by decide) rfl ?_
                                refine x_goto (pc := 1202) (tgt := 23) C (d_L_law 753 rfl) (by decide) ?_
                                exact x_sub [1, 2, 3, 4, 0] rfl (ih _ _ _ _ _ _ _ (by omega) (by omega) h)
                              · rw [if_neg c378] at h
                                refine x_iconst (pc := 1172) (v := 0) C (by decide) (d_L_law 733 rfl) ?_
                                exact absurd (Option.some.inj h) (by decide)
                        · rw [if_neg b372] at h; cases h
                      · rw [if_neg b371] at h; cases h
                    · rw [if_neg b370] at h; cases h
              · rw [if_neg b365] at h; cases h
            · rw [if_neg b364] at h; cases h
          · rw [if_neg b363] at h; cases h
        rw [if_neg c362] at h
        by_cases c381 : ((xs x4.toNatClampNeg) &&& (31 : Int32)) = 17
        · rw [if_pos c381] at h
          refine x_tsw (pc := 40) (v := 17) (tgt := 1174) C (d_L_law 24 rfl) c381 (by decide) (by decide) rfl (by decide) ?_
          refine x_aload_n (pc := 1174) C (d_L_law 735 rfl) rfl 1 rfl ?_
          refine x_aload_n (pc := 1175) C (d_L_law 736 rfl) rfl 0 rfl ?_
          refine x_iload (pc := 1176) C (d_L_law 737 rfl) 4 rfl ?_
          refine x_iconst (pc := 1178) (v := 1) C (by decide) (d_L_law 738 rfl) ?_
          refine x_iadd (pc := 1179) C (d_L_law 739 rfl) ?_
          by_cases b382 : x_in (x4 + (1 : Int32)) N
          · rw [if_pos b382] at h
            refine x_sld (pc := 1180) C hX hbl (Nat.not_le.mpr hbl) (x_in_n b382) (d_L_law 740 rfl) ?_
            cases c384 : x1 with
            | none => rw [c384] at h; cases h
            | some i383 =>
              rw [c384] at h
              dsimp only at h
              cases c385 : f_D_count i383 (xs (x4 + (1 : Int32)).toNatClampNeg) st with
              | none => rw [c385] at h; cases h
              | some v386 =>
                rw [c385] at h
                dsimp only at h
                refine x_callV (mc := 0) (ms := 0) (pc := 1181) (bL := [xI (xs (x4 + (1 : Int32)).toNatClampNeg)]) (K := []) C cs_L_128 (m_D_count l c385 : x_M l _ _ _ _ (.inl (some (xI v386))) _ 0 0) ⟨by decide, by decide, by show _ + 0 ≤ 601024; omega, by show _ + 0 ≤ 7293034; omega⟩ rfl (Nat.le_of_ble_eq_true rfl) (d_L_law 741 rfl) ?_
                refine x_aload_n (pc := 1184) C (d_L_law 742 rfl) rfl 2 rfl ?_
                refine x_aload_n (pc := 1185) C (d_L_law 743 rfl) rfl 0 rfl ?_
                refine x_iload (pc := 1186) C (d_L_law 744 rfl) 4 rfl ?_
                refine x_iconst (pc := 1188) (v := 1) C (by decide) (d_L_law 745 rfl) ?_
                refine x_iadd (pc := 1189) C (d_L_law 746 rfl) ?_
                by_cases b387 : x_in (x4 + (1 : Int32)) N
                · rw [if_pos b387] at h
                  refine x_sld (pc := 1190) C hX hbl (Nat.not_le.mpr hbl) (x_in_n b387) (d_L_law 747 rfl) ?_
                  cases c389 : x2 with
                  | none => rw [c389] at h; cases h
                  | some i388 =>
                    rw [c389] at h
                    dsimp only at h
                    cases c390 : f_M_count i388 (xs (x4 + (1 : Int32)).toNatClampNeg) st with
                    | none => rw [c390] at h; cases h
                    | some w394 =>
                      obtain ⟨v391, st392⟩ := w394
                      rw [c390] at h
                      dsimp only at h
                      refine x_callV (mc := 0) (ms := 0) (pc := 1191) (bL := [xI (xs (x4 + (1 : Int32)).toNatClampNeg)]) (K := [xI (v386)]) C cs_L_131 (m_M_count l c390 : x_M l _ _ _ _ (.inl (some (xI v391))) _ 0 0) ⟨by decide, by decide, by show _ + 0 ≤ 601024; omega, by show _ + 0 ≤ 7293034; omega⟩ rfl (Nat.le_of_ble_eq_true rfl) (d_L_law 748 rfl) ?_
                      refine x_icmp_eq (pc := 1194) (tgt := 1199) C (d_L_law 749 rfl) (by decide) (fun c393 => ?_) (fun c393 => ?_)
                      · rw [if_pos c393] at h
                        refine x_iinc (pc := 1199) (v := x4 + 6) (L2 := [(4, xI (x4 + 6)), (0, xA (b)), (1, xR 0 (some (i383))), (2, xR 32 (some (i388))), (3, xR 64 (x3))]) C (d_L_law 752 rfl) 4 rfl rfl (by decide) rfl ?_
                        refine x_goto (pc := 1202) (tgt := 23) C (d_L_law 753 rfl) (by decide) ?_
                        exact x_sub [1, 2, 3, 4, 0] rfl (ih _ _ _ _ _ _ _ (by omega) (by omega) h)
                      · rw [if_neg c393] at h
                        refine x_iconst (pc := 1197) (v := 0) C (by decide) (d_L_law 750 rfl) ?_
                        exact absurd (Option.some.inj h) (by decide)
                · rw [if_neg b387] at h; cases h
          · rw [if_neg b382] at h; cases h
        rw [if_neg c381] at h
        refine x_tout (pc := 40) (tgt := 1199) C (d_L_law 24 rfl) (x_swo (fun k h1 h2 => by
            have h3 : k = 0 ∨ k = 1 ∨ k = 2 ∨ k = 3 ∨ k = 4 ∨ k = 5 ∨ k = 6 ∨ k = 7 ∨ k = 8 ∨ k = 9 ∨ k = 10 ∨ k = 11 ∨ k = 12 ∨ k = 13 ∨ k = 14 ∨ k = 15 ∨ k = 16 ∨ k = 17 := by omega
            rcases h3 with rfl | rfl | rfl | rfl | rfl | rfl | rfl | rfl | rfl | rfl | rfl | rfl | rfl | rfl | rfl | rfl | rfl | rfl <;> assumption)) (by decide) ?_
        refine x_iinc (pc := 1199) (v := x4 + 6) (L2 := [(4, xI (x4 + 6)), (0, xA (b)), (1, xR 0 (x1)), (2, xR 32 (x2)), (3, xR 64 (x3))]) C (d_L_law 752 rfl) 4 rfl rfl (by decide) rfl ?_
        refine x_goto (pc := 1202) (tgt := 23) C (d_L_law 753 rfl) (by decide) ?_
        exact x_sub [1, 2, 3, 4, 0] rfl (ih _ _ _ _ _ _ _ (by omega) (by omega) h)
      · rw [if_neg b2] at h; cases h
def f_L_law (N : Nat) (xs : Nat → Int32) (st : XS) : Option Int32 :=
  match f_D_init (st.2.2.2 0) (xsN st 0) with
  | none => none
  | some (_, st398) =>
    match f_M_init (st398.2.2.2 32) (xsN st398 32) with
    | none => none
    | some (_, st401) =>
      f_L_law_23 N xs 600 (some (st.2.2.2 0)) (some (st398.2.2.2 32)) (some (st401.2.2.2 64)) 0 (xsN st401 64)
set_option maxRecDepth 100000 in
set_option maxHeartbeats 40000000 in
theorem v_L_law_0 {p : Program} {l : Launch} {e : Env} {s : State} {m : MethodId} {below : List Frame} {meth : Method} {c : Code} {D : va_G} {cA : Nat → ClassId} {g0 : Nat → Nat → Nat} {n0 : Nat → Nat} {b N : Nat} {xs : Nat → Int32} (C : x_C p e room_1 s m #[Value.ref b] meth c D cA (fun q => s.heap.size ≤ q) code "DescriptorDeskLaw" 7) (hret : meth.sig.returnType = ret) (hfl : l.flags = flags0) (hX : va_X b N xs s s.heap) (hbl : b < s.heap.size) {st : XS} (h : f_L_law N xs st = some 1) : x_V p l e room_1 s m #[Value.ref b] below meth c D cA (fun q => s.heap.size ≤ q) 7 g0 n0 (lw_Z below #[Value.ref b] s) 0 [(0, xA (b))] [] st 0 0 := by
  unfold f_L_law at h
  refine x_newn (n := st.2.2.2 0) (pc := 0) (q := 0) (by rfl) C rfl rfl w_15 w_16 w_1 df_0 (Nat.le_of_ble_eq_true rfl) (Nat.le_of_ble_eq_true rfl) (d_L_law 0 rfl) ?_
  refine x_dup (pc := 3) C rfl (d_L_law 1 rfl) ?_
  cases c396 : f_D_init (st.2.2.2 0) (xsN st 0) with
  | none => rw [c396] at h; cases h
  | some w403 =>
    obtain ⟨v397, st398⟩ := w403
    rw [c396] at h
    dsimp only at h
    refine x_callI (mc := 74) (ms := 1206) (pc := 4) (bL := []) (K := [xR 0 (some (st.2.2.2 0))]) C cs_L_54 (m_D_init l c396 : x_M l _ _ _ _ (.inl none) _ 74 1206) (by decide) rfl (Nat.le_of_ble_eq_true rfl) (d_L_law 2 rfl) ?_
    refine x_astore_n (pc := 7) (L2 := [(1, xR 0 (some (st.2.2.2 0))), (0, xA (b))]) C (d_L_law 3 rfl) rfl (by decide) rfl ?_
    refine x_newn (n := st398.2.2.2 32) (pc := 8) (q := 32) (by rfl) C rfl rfl w_615 w_616 w_7 df_32 (Nat.le_of_ble_eq_true rfl) (Nat.le_of_ble_eq_true rfl) (d_L_law 4 rfl) ?_
    refine x_dup (pc := 11) C rfl (d_L_law 5 rfl) ?_
    cases c399 : f_M_init (st398.2.2.2 32) (xsN st398 32) with
    | none => rw [c399] at h; cases h
    | some w402 =>
      obtain ⟨v400, st401⟩ := w402
      rw [c399] at h
      dsimp only at h
      refine x_callI (mc := 18) (ms := 882) (pc := 12) (bL := []) (K := [xR 32 (some (st398.2.2.2 32))]) C cs_L_57 (m_M_init l c399 : x_M l _ _ _ _ (.inl none) _ 18 882) (by decide) rfl (Nat.le_of_ble_eq_true rfl) (d_L_law 6 rfl) ?_
      refine x_astore_n (pc := 15) (L2 := [(2, xR 32 (some (st398.2.2.2 32))), (1, xR 0 (some (st.2.2.2 0))), (0, xA (b))]) C (d_L_law 7 rfl) rfl (by decide) rfl ?_
      refine x_iconst (pc := 16) (v := 1) C (by decide) (d_L_law 8 rfl) ?_
      refine x_newan (n := st401.2.2.2 64) (pc := 17) (by rfl) C ar_64 rfl rfl (fun _ h => h) w_685 (by decide) (by decide) (by decide) (Nat.le_of_ble_eq_true rfl) (Nat.le_of_ble_eq_true rfl) (d_L_law 9 rfl) ?_
      refine x_astore_n (pc := 19) (L2 := [(3, xR 64 (some (st401.2.2.2 64))), (2, xR 32 (some (st398.2.2.2 32))), (1, xR 0 (some (st.2.2.2 0))), (0, xA (b))]) C (d_L_law 10 rfl) rfl (by decide) rfl ?_
      refine x_iconst (pc := 20) (v := 0) C (by decide) (d_L_law 11 rfl) ?_
      refine x_istore (pc := 21) (L2 := [(4, xI (0)), (3, xR 64 (some (st401.2.2.2 64))), (2, xR 32 (some (st398.2.2.2 32))), (1, xR 0 (some (st.2.2.2 0))), (0, xA (b))]) C (d_L_law 12 rfl) (by decide) rfl ?_
      exact x_sub [4, 3, 2, 1, 0] rfl (v_L_law_23 C hret hfl hX hbl 600 _ _ _ _ _ _ _ (Nat.le_of_ble_eq_true rfl) (Nat.le_of_ble_eq_true rfl) h)
