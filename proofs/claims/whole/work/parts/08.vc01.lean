set_option maxRecDepth 20000 in
theorem vc15_25_11 {X : Nat × (Nat → Int32)} {d : Nat} (hd : 0 < d) {M : q_M} {K : q_M → Prop} (h : K (q_row (q_row (q_row (q_row (q_row (q_set (q_set (q_set (q_set (q_set M 25 0 (M 11 0)) 25 1 (M 11 1)) 25 2 (M 11 2)) 25 3 (M 11 3)) 25 4 (M 11 4)) 26 (va_cpy ((q_set (q_set (q_set (q_set (q_set M 25 0 (M 11 0)) 25 1 (M 11 1)) 25 2 (M 11 2)) 25 3 (M 11 3)) 25 4 (M 11 4)) 12) ((q_set (q_set (q_set (q_set (q_set M 25 0 (M 11 0)) 25 1 (M 11 1)) 25 2 (M 11 2)) 25 3 (M 11 3)) 25 4 (M 11 4)) 26) 0 0 30)) 27 (va_cpy ((q_row (q_set (q_set (q_set (q_set (q_set M 25 0 (M 11 0)) 25 1 (M 11 1)) 25 2 (M 11 2)) 25 3 (M 11 3)) 25 4 (M 11 4)) 26 (va_cpy ((q_set (q_set (q_set (q_set (q_set M 25 0 (M 11 0)) 25 1 (M 11 1)) 25 2 (M 11 2)) 25 3 (M 11 3)) 25 4 (M 11 4)) 12) ((q_set (q_set (q_set (q_set (q_set M 25 0 (M 11 0)) 25 1 (M 11 1)) 25 2 (M 11 2)) 25 3 (M 11 3)) 25 4 (M 11 4)) 26) 0 0 30)) 13) ((q_row (q_set (q_set (q_set (q_set (q_set M 25 0 (M 11 0)) 25 1 (M 11 1)) 25 2 (M 11 2)) 25 3 (M 11 3)) 25 4 (M 11 4)) 26 (va_cpy ((q_set (q_set (q_set (q_set (q_set M 25 0 (M 11 0)) 25 1 (M 11 1)) 25 2 (M 11 2)) 25 3 (M 11 3)) 25 4 (M 11 4)) 12) ((q_set (q_set (q_set (q_set (q_set M 25 0 (M 11 0)) 25 1 (M 11 1)) 25 2 (M 11 2)) 25 3 (M 11 3)) 25 4 (M 11 4)) 26) 0 0 30)) 27) 0 0 30)) 28 (va_cpy ((q_row (q_row (q_set (q_set (q_set (q_set (q_set M 25 0 (M 11 0)) 25 1 (M 11 1)) 25 2 (M 11 2)) 25 3 (M 11 3)) 25 4 (M 11 4)) 26 (va_cpy ((q_set (q_set (q_set (q_set (q_set M 25 0 (M 11 0)) 25 1 (M 11 1)) 25 2 (M 11 2)) 25 3 (M 11 3)) 25 4 (M 11 4)) 12) ((q_set (q_set (q_set (q_set (q_set M 25 0 (M 11 0)) 25 1 (M 11 1)) 25 2 (M 11 2)) 25 3 (M 11 3)) 25 4 (M 11 4)) 26) 0 0 30)) 27 (va_cpy ((q_row (q_set (q_set (q_set (q_set (q_set M 25 0 (M 11 0)) 25 1 (M 11 1)) 25 2 (M 11 2)) 25 3 (M 11 3)) 25 4 (M 11 4)) 26 (va_cpy ((q_set (q_set (q_set (q_set (q_set M 25 0 (M 11 0)) 25 1 (M 11 1)) 25 2 (M 11 2)) 25 3 (M 11 3)) 25 4 (M 11 4)) 12) ((q_set (q_set (q_set (q_set (q_set M 25 0 (M 11 0)) 25 1 (M 11 1)) 25 2 (M 11 2)) 25 3 (M 11 3)) 25 4 (M 11 4)) 26) 0 0 30)) 13) ((q_row (q_set (q_set (q_set (q_set (q_set M 25 0 (M 11 0)) 25 1 (M 11 1)) 25 2 (M 11 2)) 25 3 (M 11 3)) 25 4 (M 11 4)) 26 (va_cpy ((q_set (q_set (q_set (q_set (q_set M 25 0 (M 11 0)) 25 1 (M 11 1)) 25 2 (M 11 2)) 25 3 (M 11 3)) 25 4 (M 11 4)) 12) ((q_set (q_set (q_set (q_set (q_set M 25 0 (M 11 0)) 25 1 (M 11 1)) 25 2 (M 11 2)) 25 3 (M 11 3)) 25 4 (M 11 4)) 26) 0 0 30)) 27) 0 0 30)) 14) ((q_row (q_row (q_set (q_set (q_set (q_set (q_set M 25 0 (M 11 0)) 25 1 (M 11 1)) 25 2 (M 11 2)) 25 3 (M 11 3)) 25 4 (M 11 4)) 26 (va_cpy ((q_set (q_set (q_set (q_set (q_set M 25 0 (M 11 0)) 25 1 (M 11 1)) 25 2 (M 11 2)) 25 3 (M 11 3)) 25 4 (M 11 4)) 12) ((q_set (q_set (q_set (q_set (q_set M 25 0 (M 11 0)) 25 1 (M 11 1)) 25 2 (M 11 2)) 25 3 (M 11 3)) 25 4 (M 11 4)) 26) 0 0 30)) 27 (va_cpy ((q_row (q_set (q_set (q_set (q_set (q_set M 25 0 (M 11 0)) 25 1 (M 11 1)) 25 2 (M 11 2)) 25 3 (M 11 3)) 25 4 (M 11 4)) 26 (va_cpy ((q_set (q_set (q_set (q_set (q_set M 25 0 (M 11 0)) 25 1 (M 11 1)) 25 2 (M 11 2)) 25 3 (M 11 3)) 25 4 (M 11 4)) 12) ((q_set (q_set (q_set (q_set (q_set M 25 0 (M 11 0)) 25 1 (M 11 1)) 25 2 (M 11 2)) 25 3 (M 11 3)) 25 4 (M 11 4)) 26) 0 0 30)) 13) ((q_row (q_set (q_set (q_set (q_set (q_set M 25 0 (M 11 0)) 25 1 (M 11 1)) 25 2 (M 11 2)) 25 3 (M 11 3)) 25 4 (M 11 4)) 26 (va_cpy ((q_set (q_set (q_set (q_set (q_set M 25 0 (M 11 0)) 25 1 (M 11 1)) 25 2 (M 11 2)) 25 3 (M 11 3)) 25 4 (M 11 4)) 12) ((q_set (q_set (q_set (q_set (q_set M 25 0 (M 11 0)) 25 1 (M 11 1)) 25 2 (M 11 2)) 25 3 (M 11 3)) 25 4 (M 11 4)) 26) 0 0 30)) 27) 0 0 30)) 28) 0 0 30)) 29 (va_cpy ((q_row (q_row (q_row (q_set (q_set (q_set (q_set (q_set M 25 0 (M 11 0)) 25 1 (M 11 1)) 25 2 (M 11 2)) 25 3 (M 11 3)) 25 4 (M 11 4)) 26 (va_cpy ((q_set (q_set (q_set (q_set (q_set M 25 0 (M 11 0)) 25 1 (M 11 1)) 25 2 (M 11 2)) 25 3 (M 11 3)) 25 4 (M 11 4)) 12) ((q_set (q_set (q_set (q_set (q_set M 25 0 (M 11 0)) 25 1 (M 11 1)) 25 2 (M 11 2)) 25 3 (M 11 3)) 25 4 (M 11 4)) 26) 0 0 30)) 27 (va_cpy ((q_row (q_set (q_set (q_set (q_set (q_set M 25 0 (M 11 0)) 25 1 (M 11 1)) 25 2 (M 11 2)) 25 3 (M 11 3)) 25 4 (M 11 4)) 26 (va_cpy ((q_set (q_set (q_set (q_set (q_set M 25 0 (M 11 0)) 25 1 (M 11 1)) 25 2 (M 11 2)) 25 3 (M 11 3)) 25 4 (M 11 4)) 12) ((q_set (q_set (q_set (q_set (q_set M 25 0 (M 11 0)) 25 1 (M 11 1)) 25 2 (M 11 2)) 25 3 (M 11 3)) 25 4 (M 11 4)) 26) 0 0 30)) 13) ((q_row (q_set (q_set (q_set (q_set (q_set M 25 0 (M 11 0)) 25 1 (M 11 1)) 25 2 (M 11 2)) 25 3 (M 11 3)) 25 4 (M 11 4)) 26 (va_cpy ((q_set (q_set (q_set (q_set (q_set M 25 0 (M 11 0)) 25 1 (M 11 1)) 25 2 (M 11 2)) 25 3 (M 11 3)) 25 4 (M 11 4)) 12) ((q_set (q_set (q_set (q_set (q_set M 25 0 (M 11 0)) 25 1 (M 11 1)) 25 2 (M 11 2)) 25 3 (M 11 3)) 25 4 (M 11 4)) 26) 0 0 30)) 27) 0 0 30)) 28 (va_cpy ((q_row (q_row (q_set (q_set (q_set (q_set (q_set M 25 0 (M 11 0)) 25 1 (M 11 1)) 25 2 (M 11 2)) 25 3 (M 11 3)) 25 4 (M 11 4)) 26 (va_cpy ((q_set (q_set (q_set (q_set (q_set M 25 0 (M 11 0)) 25 1 (M 11 1)) 25 2 (M 11 2)) 25 3 (M 11 3)) 25 4 (M 11 4)) 12) ((q_set (q_set (q_set (q_set (q_set M 25 0 (M 11 0)) 25 1 (M 11 1)) 25 2 (M 11 2)) 25 3 (M 11 3)) 25 4 (M 11 4)) 26) 0 0 30)) 27 (va_cpy ((q_row (q_set (q_set (q_set (q_set (q_set M 25 0 (M 11 0)) 25 1 (M 11 1)) 25 2 (M 11 2)) 25 3 (M 11 3)) 25 4 (M 11 4)) 26 (va_cpy ((q_set (q_set (q_set (q_set (q_set M 25 0 (M 11 0)) 25 1 (M 11 1)) 25 2 (M 11 2)) 25 3 (M 11 3)) 25 4 (M 11 4)) 12) ((q_set (q_set (q_set (q_set (q_set M 25 0 (M 11 0)) 25 1 (M 11 1)) 25 2 (M 11 2)) 25 3 (M 11 3)) 25 4 (M 11 4)) 26) 0 0 30)) 13) ((q_row (q_set (q_set (q_set (q_set (q_set M 25 0 (M 11 0)) 25 1 (M 11 1)) 25 2 (M 11 2)) 25 3 (M 11 3)) 25 4 (M 11 4)) 26 (va_cpy ((q_set (q_set (q_set (q_set (q_set M 25 0 (M 11 0)) 25 1 (M 11 1)) 25 2 (M 11 2)) 25 3 (M 11 3)) 25 4 (M 11 4)) 12) ((q_set (q_set (q_set (q_set (q_set M 25 0 (M 11 0)) 25 1 (M 11 1)) 25 2 (M 11 2)) 25 3 (M 11 3)) 25 4 (M 11 4)) 26) 0 0 30)) 27) 0 0 30)) 14) ((q_row (q_row (q_set (q_set (q_set (q_set (q_set M 25 0 (M 11 0)) 25 1 (M 11 1)) 25 2 (M 11 2)) 25 3 (M 11 3)) 25 4 (M 11 4)) 26 (va_cpy ((q_set (q_set (q_set (q_set (q_set M 25 0 (M 11 0)) 25 1 (M 11 1)) 25 2 (M 11 2)) 25 3 (M 11 3)) 25 4 (M 11 4)) 12) ((q_set (q_set (q_set (q_set (q_set M 25 0 (M 11 0)) 25 1 (M 11 1)) 25 2 (M 11 2)) 25 3 (M 11 3)) 25 4 (M 11 4)) 26) 0 0 30)) 27 (va_cpy ((q_row (q_set (q_set (q_set (q_set (q_set M 25 0 (M 11 0)) 25 1 (M 11 1)) 25 2 (M 11 2)) 25 3 (M 11 3)) 25 4 (M 11 4)) 26 (va_cpy ((q_set (q_set (q_set (q_set (q_set M 25 0 (M 11 0)) 25 1 (M 11 1)) 25 2 (M 11 2)) 25 3 (M 11 3)) 25 4 (M 11 4)) 12) ((q_set (q_set (q_set (q_set (q_set M 25 0 (M 11 0)) 25 1 (M 11 1)) 25 2 (M 11 2)) 25 3 (M 11 3)) 25 4 (M 11 4)) 26) 0 0 30)) 13) ((q_row (q_set (q_set (q_set (q_set (q_set M 25 0 (M 11 0)) 25 1 (M 11 1)) 25 2 (M 11 2)) 25 3 (M 11 3)) 25 4 (M 11 4)) 26 (va_cpy ((q_set (q_set (q_set (q_set (q_set M 25 0 (M 11 0)) 25 1 (M 11 1)) 25 2 (M 11 2)) 25 3 (M 11 3)) 25 4 (M 11 4)) 12) ((q_set (q_set (q_set (q_set (q_set M 25 0 (M 11 0)) 25 1 (M 11 1)) 25 2 (M 11 2)) 25 3 (M 11 3)) 25 4 (M 11 4)) 26) 0 0 30)) 27) 0 0 30)) 28) 0 0 30)) 15) ((q_row (q_row (q_row (q_set (q_set (q_set (q_set (q_set M 25 0 (M 11 0)) 25 1 (M 11 1)) 25 2 (M 11 2)) 25 3 (M 11 3)) 25 4 (M 11 4)) 26 (va_cpy ((q_set (q_set (q_set (q_set (q_set M 25 0 (M 11 0)) 25 1 (M 11 1)) 25 2 (M 11 2)) 25 3 (M 11 3)) 25 4 (M 11 4)) 12) ((q_set (q_set (q_set (q_set (q_set M 25 0 (M 11 0)) 25 1 (M 11 1)) 25 2 (M 11 2)) 25 3 (M 11 3)) 25 4 (M 11 4)) 26) 0 0 30)) 27 (va_cpy ((q_row (q_set (q_set (q_set (q_set (q_set M 25 0 (M 11 0)) 25 1 (M 11 1)) 25 2 (M 11 2)) 25 3 (M 11 3)) 25 4 (M 11 4)) 26 (va_cpy ((q_set (q_set (q_set (q_set (q_set M 25 0 (M 11 0)) 25 1 (M 11 1)) 25 2 (M 11 2)) 25 3 (M 11 3)) 25 4 (M 11 4)) 12) ((q_set (q_set (q_set (q_set (q_set M 25 0 (M 11 0)) 25 1 (M 11 1)) 25 2 (M 11 2)) 25 3 (M 11 3)) 25 4 (M 11 4)) 26) 0 0 30)) 13) ((q_row (q_set (q_set (q_set (q_set (q_set M 25 0 (M 11 0)) 25 1 (M 11 1)) 25 2 (M 11 2)) 25 3 (M 11 3)) 25 4 (M 11 4)) 26 (va_cpy ((q_set (q_set (q_set (q_set (q_set M 25 0 (M 11 0)) 25 1 (M 11 1)) 25 2 (M 11 2)) 25 3 (M 11 3)) 25 4 (M 11 4)) 12) ((q_set (q_set (q_set (q_set (q_set M 25 0 (M 11 0)) 25 1 (M 11 1)) 25 2 (M 11 2)) 25 3 (M 11 3)) 25 4 (M 11 4)) 26) 0 0 30)) 27) 0 0 30)) 28 (va_cpy ((q_row (q_row (q_set (q_set (q_set (q_set (q_set M 25 0 (M 11 0)) 25 1 (M 11 1)) 25 2 (M 11 2)) 25 3 (M 11 3)) 25 4 (M 11 4)) 26 (va_cpy ((q_set (q_set (q_set (q_set (q_set M 25 0 (M 11 0)) 25 1 (M 11 1)) 25 2 (M 11 2)) 25 3 (M 11 3)) 25 4 (M 11 4)) 12) ((q_set (q_set (q_set (q_set (q_set M 25 0 (M 11 0)) 25 1 (M 11 1)) 25 2 (M 11 2)) 25 3 (M 11 3)) 25 4 (M 11 4)) 26) 0 0 30)) 27 (va_cpy ((q_row (q_set (q_set (q_set (q_set (q_set M 25 0 (M 11 0)) 25 1 (M 11 1)) 25 2 (M 11 2)) 25 3 (M 11 3)) 25 4 (M 11 4)) 26 (va_cpy ((q_set (q_set (q_set (q_set (q_set M 25 0 (M 11 0)) 25 1 (M 11 1)) 25 2 (M 11 2)) 25 3 (M 11 3)) 25 4 (M 11 4)) 12) ((q_set (q_set (q_set (q_set (q_set M 25 0 (M 11 0)) 25 1 (M 11 1)) 25 2 (M 11 2)) 25 3 (M 11 3)) 25 4 (M 11 4)) 26) 0 0 30)) 13) ((q_row (q_set (q_set (q_set (q_set (q_set M 25 0 (M 11 0)) 25 1 (M 11 1)) 25 2 (M 11 2)) 25 3 (M 11 3)) 25 4 (M 11 4)) 26 (va_cpy ((q_set (q_set (q_set (q_set (q_set M 25 0 (M 11 0)) 25 1 (M 11 1)) 25 2 (M 11 2)) 25 3 (M 11 3)) 25 4 (M 11 4)) 12) ((q_set (q_set (q_set (q_set (q_set M 25 0 (M 11 0)) 25 1 (M 11 1)) 25 2 (M 11 2)) 25 3 (M 11 3)) 25 4 (M 11 4)) 26) 0 0 30)) 27) 0 0 30)) 14) ((q_row (q_row (q_set (q_set (q_set (q_set (q_set M 25 0 (M 11 0)) 25 1 (M 11 1)) 25 2 (M 11 2)) 25 3 (M 11 3)) 25 4 (M 11 4)) 26 (va_cpy ((q_set (q_set (q_set (q_set (q_set M 25 0 (M 11 0)) 25 1 (M 11 1)) 25 2 (M 11 2)) 25 3 (M 11 3)) 25 4 (M 11 4)) 12) ((q_set (q_set (q_set (q_set (q_set M 25 0 (M 11 0)) 25 1 (M 11 1)) 25 2 (M 11 2)) 25 3 (M 11 3)) 25 4 (M 11 4)) 26) 0 0 30)) 27 (va_cpy ((q_row (q_set (q_set (q_set (q_set (q_set M 25 0 (M 11 0)) 25 1 (M 11 1)) 25 2 (M 11 2)) 25 3 (M 11 3)) 25 4 (M 11 4)) 26 (va_cpy ((q_set (q_set (q_set (q_set (q_set M 25 0 (M 11 0)) 25 1 (M 11 1)) 25 2 (M 11 2)) 25 3 (M 11 3)) 25 4 (M 11 4)) 12) ((q_set (q_set (q_set (q_set (q_set M 25 0 (M 11 0)) 25 1 (M 11 1)) 25 2 (M 11 2)) 25 3 (M 11 3)) 25 4 (M 11 4)) 26) 0 0 30)) 13) ((q_row (q_set (q_set (q_set (q_set (q_set M 25 0 (M 11 0)) 25 1 (M 11 1)) 25 2 (M 11 2)) 25 3 (M 11 3)) 25 4 (M 11 4)) 26 (va_cpy ((q_set (q_set (q_set (q_set (q_set M 25 0 (M 11 0)) 25 1 (M 11 1)) 25 2 (M 11 2)) 25 3 (M 11 3)) 25 4 (M 11 4)) 12) ((q_set (q_set (q_set (q_set (q_set M 25 0 (M 11 0)) 25 1 (M 11 1)) 25 2 (M 11 2)) 25 3 (M 11 3)) 25 4 (M 11 4)) 26) 0 0 30)) 27) 0 0 30)) 28) 0 0 30)) 29) 0 0 3)) 30 (va_cpy ((q_row (q_row (q_row (q_row (q_set (q_set (q_set (q_set (q_set M 25 0 (M 11 0)) 25 1 (M 11 1)) 25 2 (M 11 2)) 25 3 (M 11 3)) 25 4 (M 11 4)) 26 (va_cpy ((q_set (q_set (q_set (q_set (q_set M 25 0 (M 11 0)) 25 1 (M 11 1)) 25 2 (M 11 2)) 25 3 (M 11 3)) 25 4 (M 11 4)) 12) ((q_set (q_set (q_set (q_set (q_set M 25 0 (M 11 0)) 25 1 (M 11 1)) 25 2 (M 11 2)) 25 3 (M 11 3)) 25 4 (M 11 4)) 26) 0 0 30)) 27 (va_cpy ((q_row (q_set (q_set (q_set (q_set (q_set M 25 0 (M 11 0)) 25 1 (M 11 1)) 25 2 (M 11 2)) 25 3 (M 11 3)) 25 4 (M 11 4)) 26 (va_cpy ((q_set (q_set (q_set (q_set (q_set M 25 0 (M 11 0)) 25 1 (M 11 1)) 25 2 (M 11 2)) 25 3 (M 11 3)) 25 4 (M 11 4)) 12) ((q_set (q_set (q_set (q_set (q_set M 25 0 (M 11 0)) 25 1 (M 11 1)) 25 2 (M 11 2)) 25 3 (M 11 3)) 25 4 (M 11 4)) 26) 0 0 30)) 13) ((q_row (q_set (q_set (q_set (q_set (q_set M 25 0 (M 11 0)) 25 1 (M 11 1)) 25 2 (M 11 2)) 25 3 (M 11 3)) 25 4 (M 11 4)) 26 (va_cpy ((q_set (q_set (q_set (q_set (q_set M 25 0 (M 11 0)) 25 1 (M 11 1)) 25 2 (M 11 2)) 25 3 (M 11 3)) 25 4 (M 11 4)) 12) ((q_set (q_set (q_set (q_set (q_set M 25 0 (M 11 0)) 25 1 (M 11 1)) 25 2 (M 11 2)) 25 3 (M 11 3)) 25 4 (M 11 4)) 26) 0 0 30)) 27) 0 0 30)) 28 (va_cpy ((q_row (q_row (q_set (q_set (q_set (q_set (q_set M 25 0 (M 11 0)) 25 1 (M 11 1)) 25 2 (M 11 2)) 25 3 (M 11 3)) 25 4 (M 11 4)) 26 (va_cpy ((q_set (q_set (q_set (q_set (q_set M 25 0 (M 11 0)) 25 1 (M 11 1)) 25 2 (M 11 2)) 25 3 (M 11 3)) 25 4 (M 11 4)) 12) ((q_set (q_set (q_set (q_set (q_set M 25 0 (M 11 0)) 25 1 (M 11 1)) 25 2 (M 11 2)) 25 3 (M 11 3)) 25 4 (M 11 4)) 26) 0 0 30)) 27 (va_cpy ((q_row (q_set (q_set (q_set (q_set (q_set M 25 0 (M 11 0)) 25 1 (M 11 1)) 25 2 (M 11 2)) 25 3 (M 11 3)) 25 4 (M 11 4)) 26 (va_cpy ((q_set (q_set (q_set (q_set (q_set M 25 0 (M 11 0)) 25 1 (M 11 1)) 25 2 (M 11 2)) 25 3 (M 11 3)) 25 4 (M 11 4)) 12) ((q_set (q_set (q_set (q_set (q_set M 25 0 (M 11 0)) 25 1 (M 11 1)) 25 2 (M 11 2)) 25 3 (M 11 3)) 25 4 (M 11 4)) 26) 0 0 30)) 13) ((q_row (q_set (q_set (q_set (q_set (q_set M 25 0 (M 11 0)) 25 1 (M 11 1)) 25 2 (M 11 2)) 25 3 (M 11 3)) 25 4 (M 11 4)) 26 (va_cpy ((q_set (q_set (q_set (q_set (q_set M 25 0 (M 11 0)) 25 1 (M 11 1)) 25 2 (M 11 2)) 25 3 (M 11 3)) 25 4 (M 11 4)) 12) ((q_set (q_set (q_set (q_set (q_set M 25 0 (M 11 0)) 25 1 (M 11 1)) 25 2 (M 11 2)) 25 3 (M 11 3)) 25 4 (M 11 4)) 26) 0 0 30)) 27) 0 0 30)) 14) ((q_row (q_row (q_set (q_set (q_set (q_set (q_set M 25 0 (M 11 0)) 25 1 (M 11 1)) 25 2 (M 11 2)) 25 3 (M 11 3)) 25 4 (M 11 4)) 26 (va_cpy ((q_set (q_set (q_set (q_set (q_set M 25 0 (M 11 0)) 25 1 (M 11 1)) 25 2 (M 11 2)) 25 3 (M 11 3)) 25 4 (M 11 4)) 12) ((q_set (q_set (q_set (q_set (q_set M 25 0 (M 11 0)) 25 1 (M 11 1)) 25 2 (M 11 2)) 25 3 (M 11 3)) 25 4 (M 11 4)) 26) 0 0 30)) 27 (va_cpy ((q_row (q_set (q_set (q_set (q_set (q_set M 25 0 (M 11 0)) 25 1 (M 11 1)) 25 2 (M 11 2)) 25 3 (M 11 3)) 25 4 (M 11 4)) 26 (va_cpy ((q_set (q_set (q_set (q_set (q_set M 25 0 (M 11 0)) 25 1 (M 11 1)) 25 2 (M 11 2)) 25 3 (M 11 3)) 25 4 (M 11 4)) 12) ((q_set (q_set (q_set (q_set (q_set M 25 0 (M 11 0)) 25 1 (M 11 1)) 25 2 (M 11 2)) 25 3 (M 11 3)) 25 4 (M 11 4)) 26) 0 0 30)) 13) ((q_row (q_set (q_set (q_set (q_set (q_set M 25 0 (M 11 0)) 25 1 (M 11 1)) 25 2 (M 11 2)) 25 3 (M 11 3)) 25 4 (M 11 4)) 26 (va_cpy ((q_set (q_set (q_set (q_set (q_set M 25 0 (M 11 0)) 25 1 (M 11 1)) 25 2 (M 11 2)) 25 3 (M 11 3)) 25 4 (M 11 4)) 12) ((q_set (q_set (q_set (q_set (q_set M 25 0 (M 11 0)) 25 1 (M 11 1)) 25 2 (M 11 2)) 25 3 (M 11 3)) 25 4 (M 11 4)) 26) 0 0 30)) 27) 0 0 30)) 28) 0 0 30)) 29 (va_cpy ((q_row (q_row (q_row (q_set (q_set (q_set (q_set (q_set M 25 0 (M 11 0)) 25 1 (M 11 1)) 25 2 (M 11 2)) 25 3 (M 11 3)) 25 4 (M 11 4)) 26 (va_cpy ((q_set (q_set (q_set (q_set (q_set M 25 0 (M 11 0)) 25 1 (M 11 1)) 25 2 (M 11 2)) 25 3 (M 11 3)) 25 4 (M 11 4)) 12) ((q_set (q_set (q_set (q_set (q_set M 25 0 (M 11 0)) 25 1 (M 11 1)) 25 2 (M 11 2)) 25 3 (M 11 3)) 25 4 (M 11 4)) 26) 0 0 30)) 27 (va_cpy ((q_row (q_set (q_set (q_set (q_set (q_set M 25 0 (M 11 0)) 25 1 (M 11 1)) 25 2 (M 11 2)) 25 3 (M 11 3)) 25 4 (M 11 4)) 26 (va_cpy ((q_set (q_set (q_set (q_set (q_set M 25 0 (M 11 0)) 25 1 (M 11 1)) 25 2 (M 11 2)) 25 3 (M 11 3)) 25 4 (M 11 4)) 12) ((q_set (q_set (q_set (q_set (q_set M 25 0 (M 11 0)) 25 1 (M 11 1)) 25 2 (M 11 2)) 25 3 (M 11 3)) 25 4 (M 11 4)) 26) 0 0 30)) 13) ((q_row (q_set (q_set (q_set (q_set (q_set M 25 0 (M 11 0)) 25 1 (M 11 1)) 25 2 (M 11 2)) 25 3 (M 11 3)) 25 4 (M 11 4)) 26 (va_cpy ((q_set (q_set (q_set (q_set (q_set M 25 0 (M 11 0)) 25 1 (M 11 1)) 25 2 (M 11 2)) 25 3 (M 11 3)) 25 4 (M 11 4)) 12) ((q_set (q_set (q_set (q_set (q_set M 25 0 (M 11 0)) 25 1 (M 11 1)) 25 2 (M 11 2)) 25 3 (M 11 3)) 25 4 (M 11 4)) 26) 0 0 30)) 27) 0 0 30)) 28 (va_cpy ((q_row (q_row (q_set (q_set (q_set (q_set (q_set M 25 0 (M 11 0)) 25 1 (M 11 1)) 25 2 (M 11 2)) 25 3 (M 11 3)) 25 4 (M 11 4)) 26 (va_cpy ((q_set (q_set (q_set (q_set (q_set M 25 0 (M 11 0)) 25 1 (M 11 1)) 25 2 (M 11 2)) 25 3 (M 11 3)) 25 4 (M 11 4)) 12) ((q_set (q_set (q_set (q_set (q_set M 25 0 (M 11 0)) 25 1 (M 11 1)) 25 2 (M 11 2)) 25 3 (M 11 3)) 25 4 (M 11 4)) 26) 0 0 30)) 27 (va_cpy ((q_row (q_set (q_set (q_set (q_set (q_set M 25 0 (M 11 0)) 25 1 (M 11 1)) 25 2 (M 11 2)) 25 3 (M 11 3)) 25 4 (M 11 4)) 26 (va_cpy ((q_set (q_set (q_set (q_set (q_set M 25 0 (M 11 0)) 25 1 (M 11 1)) 25 2 (M 11 2)) 25 3 (M 11 3)) 25 4 (M 11 4)) 12) ((q_set (q_set (q_set (q_set (q_set M 25 0 (M 11 0)) 25 1 (M 11 1)) 25 2 (M 11 2)) 25 3 (M 11 3)) 25 4 (M 11 4)) 26) 0 0 30)) 13) ((q_row (q_set (q_set (q_set (q_set (q_set M 25 0 (M 11 0)) 25 1 (M 11 1)) 25 2 (M 11 2)) 25 3 (M 11 3)) 25 4 (M 11 4)) 26 (va_cpy ((q_set (q_set (q_set (q_set (q_set M 25 0 (M 11 0)) 25 1 (M 11 1)) 25 2 (M 11 2)) 25 3 (M 11 3)) 25 4 (M 11 4)) 12) ((q_set (q_set (q_set (q_set (q_set M 25 0 (M 11 0)) 25 1 (M 11 1)) 25 2 (M 11 2)) 25 3 (M 11 3)) 25 4 (M 11 4)) 26) 0 0 30)) 27) 0 0 30)) 14) ((q_row (q_row (q_set (q_set (q_set (q_set (q_set M 25 0 (M 11 0)) 25 1 (M 11 1)) 25 2 (M 11 2)) 25 3 (M 11 3)) 25 4 (M 11 4)) 26 (va_cpy ((q_set (q_set (q_set (q_set (q_set M 25 0 (M 11 0)) 25 1 (M 11 1)) 25 2 (M 11 2)) 25 3 (M 11 3)) 25 4 (M 11 4)) 12) ((q_set (q_set (q_set (q_set (q_set M 25 0 (M 11 0)) 25 1 (M 11 1)) 25 2 (M 11 2)) 25 3 (M 11 3)) 25 4 (M 11 4)) 26) 0 0 30)) 27 (va_cpy ((q_row (q_set (q_set (q_set (q_set (q_set M 25 0 (M 11 0)) 25 1 (M 11 1)) 25 2 (M 11 2)) 25 3 (M 11 3)) 25 4 (M 11 4)) 26 (va_cpy ((q_set (q_set (q_set (q_set (q_set M 25 0 (M 11 0)) 25 1 (M 11 1)) 25 2 (M 11 2)) 25 3 (M 11 3)) 25 4 (M 11 4)) 12) ((q_set (q_set (q_set (q_set (q_set M 25 0 (M 11 0)) 25 1 (M 11 1)) 25 2 (M 11 2)) 25 3 (M 11 3)) 25 4 (M 11 4)) 26) 0 0 30)) 13) ((q_row (q_set (q_set (q_set (q_set (q_set M 25 0 (M 11 0)) 25 1 (M 11 1)) 25 2 (M 11 2)) 25 3 (M 11 3)) 25 4 (M 11 4)) 26 (va_cpy ((q_set (q_set (q_set (q_set (q_set M 25 0 (M 11 0)) 25 1 (M 11 1)) 25 2 (M 11 2)) 25 3 (M 11 3)) 25 4 (M 11 4)) 12) ((q_set (q_set (q_set (q_set (q_set M 25 0 (M 11 0)) 25 1 (M 11 1)) 25 2 (M 11 2)) 25 3 (M 11 3)) 25 4 (M 11 4)) 26) 0 0 30)) 27) 0 0 30)) 28) 0 0 30)) 15) ((q_row (q_row (q_row (q_set (q_set (q_set (q_set (q_set M 25 0 (M 11 0)) 25 1 (M 11 1)) 25 2 (M 11 2)) 25 3 (M 11 3)) 25 4 (M 11 4)) 26 (va_cpy ((q_set (q_set (q_set (q_set (q_set M 25 0 (M 11 0)) 25 1 (M 11 1)) 25 2 (M 11 2)) 25 3 (M 11 3)) 25 4 (M 11 4)) 12) ((q_set (q_set (q_set (q_set (q_set M 25 0 (M 11 0)) 25 1 (M 11 1)) 25 2 (M 11 2)) 25 3 (M 11 3)) 25 4 (M 11 4)) 26) 0 0 30)) 27 (va_cpy ((q_row (q_set (q_set (q_set (q_set (q_set M 25 0 (M 11 0)) 25 1 (M 11 1)) 25 2 (M 11 2)) 25 3 (M 11 3)) 25 4 (M 11 4)) 26 (va_cpy ((q_set (q_set (q_set (q_set (q_set M 25 0 (M 11 0)) 25 1 (M 11 1)) 25 2 (M 11 2)) 25 3 (M 11 3)) 25 4 (M 11 4)) 12) ((q_set (q_set (q_set (q_set (q_set M 25 0 (M 11 0)) 25 1 (M 11 1)) 25 2 (M 11 2)) 25 3 (M 11 3)) 25 4 (M 11 4)) 26) 0 0 30)) 13) ((q_row (q_set (q_set (q_set (q_set (q_set M 25 0 (M 11 0)) 25 1 (M 11 1)) 25 2 (M 11 2)) 25 3 (M 11 3)) 25 4 (M 11 4)) 26 (va_cpy ((q_set (q_set (q_set (q_set (q_set M 25 0 (M 11 0)) 25 1 (M 11 1)) 25 2 (M 11 2)) 25 3 (M 11 3)) 25 4 (M 11 4)) 12) ((q_set (q_set (q_set (q_set (q_set M 25 0 (M 11 0)) 25 1 (M 11 1)) 25 2 (M 11 2)) 25 3 (M 11 3)) 25 4 (M 11 4)) 26) 0 0 30)) 27) 0 0 30)) 28 (va_cpy ((q_row (q_row (q_set (q_set (q_set (q_set (q_set M 25 0 (M 11 0)) 25 1 (M 11 1)) 25 2 (M 11 2)) 25 3 (M 11 3)) 25 4 (M 11 4)) 26 (va_cpy ((q_set (q_set (q_set (q_set (q_set M 25 0 (M 11 0)) 25 1 (M 11 1)) 25 2 (M 11 2)) 25 3 (M 11 3)) 25 4 (M 11 4)) 12) ((q_set (q_set (q_set (q_set (q_set M 25 0 (M 11 0)) 25 1 (M 11 1)) 25 2 (M 11 2)) 25 3 (M 11 3)) 25 4 (M 11 4)) 26) 0 0 30)) 27 (va_cpy ((q_row (q_set (q_set (q_set (q_set (q_set M 25 0 (M 11 0)) 25 1 (M 11 1)) 25 2 (M 11 2)) 25 3 (M 11 3)) 25 4 (M 11 4)) 26 (va_cpy ((q_set (q_set (q_set (q_set (q_set M 25 0 (M 11 0)) 25 1 (M 11 1)) 25 2 (M 11 2)) 25 3 (M 11 3)) 25 4 (M 11 4)) 12) ((q_set (q_set (q_set (q_set (q_set M 25 0 (M 11 0)) 25 1 (M 11 1)) 25 2 (M 11 2)) 25 3 (M 11 3)) 25 4 (M 11 4)) 26) 0 0 30)) 13) ((q_row (q_set (q_set (q_set (q_set (q_set M 25 0 (M 11 0)) 25 1 (M 11 1)) 25 2 (M 11 2)) 25 3 (M 11 3)) 25 4 (M 11 4)) 26 (va_cpy ((q_set (q_set (q_set (q_set (q_set M 25 0 (M 11 0)) 25 1 (M 11 1)) 25 2 (M 11 2)) 25 3 (M 11 3)) 25 4 (M 11 4)) 12) ((q_set (q_set (q_set (q_set (q_set M 25 0 (M 11 0)) 25 1 (M 11 1)) 25 2 (M 11 2)) 25 3 (M 11 3)) 25 4 (M 11 4)) 26) 0 0 30)) 27) 0 0 30)) 14) ((q_row (q_row (q_set (q_set (q_set (q_set (q_set M 25 0 (M 11 0)) 25 1 (M 11 1)) 25 2 (M 11 2)) 25 3 (M 11 3)) 25 4 (M 11 4)) 26 (va_cpy ((q_set (q_set (q_set (q_set (q_set M 25 0 (M 11 0)) 25 1 (M 11 1)) 25 2 (M 11 2)) 25 3 (M 11 3)) 25 4 (M 11 4)) 12) ((q_set (q_set (q_set (q_set (q_set M 25 0 (M 11 0)) 25 1 (M 11 1)) 25 2 (M 11 2)) 25 3 (M 11 3)) 25 4 (M 11 4)) 26) 0 0 30)) 27 (va_cpy ((q_row (q_set (q_set (q_set (q_set (q_set M 25 0 (M 11 0)) 25 1 (M 11 1)) 25 2 (M 11 2)) 25 3 (M 11 3)) 25 4 (M 11 4)) 26 (va_cpy ((q_set (q_set (q_set (q_set (q_set M 25 0 (M 11 0)) 25 1 (M 11 1)) 25 2 (M 11 2)) 25 3 (M 11 3)) 25 4 (M 11 4)) 12) ((q_set (q_set (q_set (q_set (q_set M 25 0 (M 11 0)) 25 1 (M 11 1)) 25 2 (M 11 2)) 25 3 (M 11 3)) 25 4 (M 11 4)) 26) 0 0 30)) 13) ((q_row (q_set (q_set (q_set (q_set (q_set M 25 0 (M 11 0)) 25 1 (M 11 1)) 25 2 (M 11 2)) 25 3 (M 11 3)) 25 4 (M 11 4)) 26 (va_cpy ((q_set (q_set (q_set (q_set (q_set M 25 0 (M 11 0)) 25 1 (M 11 1)) 25 2 (M 11 2)) 25 3 (M 11 3)) 25 4 (M 11 4)) 12) ((q_set (q_set (q_set (q_set (q_set M 25 0 (M 11 0)) 25 1 (M 11 1)) 25 2 (M 11 2)) 25 3 (M 11 3)) 25 4 (M 11 4)) 26) 0 0 30)) 27) 0 0 30)) 28) 0 0 30)) 29) 0 0 3)) 16) ((q_row (q_row (q_row (q_row (q_set (q_set (q_set (q_set (q_set M 25 0 (M 11 0)) 25 1 (M 11 1)) 25 2 (M 11 2)) 25 3 (M 11 3)) 25 4 (M 11 4)) 26 (va_cpy ((q_set (q_set (q_set (q_set (q_set M 25 0 (M 11 0)) 25 1 (M 11 1)) 25 2 (M 11 2)) 25 3 (M 11 3)) 25 4 (M 11 4)) 12) ((q_set (q_set (q_set (q_set (q_set M 25 0 (M 11 0)) 25 1 (M 11 1)) 25 2 (M 11 2)) 25 3 (M 11 3)) 25 4 (M 11 4)) 26) 0 0 30)) 27 (va_cpy ((q_row (q_set (q_set (q_set (q_set (q_set M 25 0 (M 11 0)) 25 1 (M 11 1)) 25 2 (M 11 2)) 25 3 (M 11 3)) 25 4 (M 11 4)) 26 (va_cpy ((q_set (q_set (q_set (q_set (q_set M 25 0 (M 11 0)) 25 1 (M 11 1)) 25 2 (M 11 2)) 25 3 (M 11 3)) 25 4 (M 11 4)) 12) ((q_set (q_set (q_set (q_set (q_set M 25 0 (M 11 0)) 25 1 (M 11 1)) 25 2 (M 11 2)) 25 3 (M 11 3)) 25 4 (M 11 4)) 26) 0 0 30)) 13) ((q_row (q_set (q_set (q_set (q_set (q_set M 25 0 (M 11 0)) 25 1 (M 11 1)) 25 2 (M 11 2)) 25 3 (M 11 3)) 25 4 (M 11 4)) 26 (va_cpy ((q_set (q_set (q_set (q_set (q_set M 25 0 (M 11 0)) 25 1 (M 11 1)) 25 2 (M 11 2)) 25 3 (M 11 3)) 25 4 (M 11 4)) 12) ((q_set (q_set (q_set (q_set (q_set M 25 0 (M 11 0)) 25 1 (M 11 1)) 25 2 (M 11 2)) 25 3 (M 11 3)) 25 4 (M 11 4)) 26) 0 0 30)) 27) 0 0 30)) 28 (va_cpy ((q_row (q_row (q_set (q_set (q_set (q_set (q_set M 25 0 (M 11 0)) 25 1 (M 11 1)) 25 2 (M 11 2)) 25 3 (M 11 3)) 25 4 (M 11 4)) 26 (va_cpy ((q_set (q_set (q_set (q_set (q_set M 25 0 (M 11 0)) 25 1 (M 11 1)) 25 2 (M 11 2)) 25 3 (M 11 3)) 25 4 (M 11 4)) 12) ((q_set (q_set (q_set (q_set (q_set M 25 0 (M 11 0)) 25 1 (M 11 1)) 25 2 (M 11 2)) 25 3 (M 11 3)) 25 4 (M 11 4)) 26) 0 0 30)) 27 (va_cpy ((q_row (q_set (q_set (q_set (q_set (q_set M 25 0 (M 11 0)) 25 1 (M 11 1)) 25 2 (M 11 2)) 25 3 (M 11 3)) 25 4 (M 11 4)) 26 (va_cpy ((q_set (q_set (q_set (q_set (q_set M 25 0 (M 11 0)) 25 1 (M 11 1)) 25 2 (M 11 2)) 25 3 (M 11 3)) 25 4 (M 11 4)) 12) ((q_set (q_set (q_set (q_set (q_set M 25 0 (M 11 0)) 25 1 (M 11 1)) 25 2 (M 11 2)) 25 3 (M 11 3)) 25 4 (M 11 4)) 26) 0 0 30)) 13) ((q_row (q_set (q_set (q_set (q_set (q_set M 25 0 (M 11 0)) 25 1 (M 11 1)) 25 2 (M 11 2)) 25 3 (M 11 3)) 25 4 (M 11 4)) 26 (va_cpy ((q_set (q_set (q_set (q_set (q_set M 25 0 (M 11 0)) 25 1 (M 11 1)) 25 2 (M 11 2)) 25 3 (M 11 3)) 25 4 (M 11 4)) 12) ((q_set (q_set (q_set (q_set (q_set M 25 0 (M 11 0)) 25 1 (M 11 1)) 25 2 (M 11 2)) 25 3 (M 11 3)) 25 4 (M 11 4)) 26) 0 0 30)) 27) 0 0 30)) 14) ((q_row (q_row (q_set (q_set (q_set (q_set (q_set M 25 0 (M 11 0)) 25 1 (M 11 1)) 25 2 (M 11 2)) 25 3 (M 11 3)) 25 4 (M 11 4)) 26 (va_cpy ((q_set (q_set (q_set (q_set (q_set M 25 0 (M 11 0)) 25 1 (M 11 1)) 25 2 (M 11 2)) 25 3 (M 11 3)) 25 4 (M 11 4)) 12) ((q_set (q_set (q_set (q_set (q_set M 25 0 (M 11 0)) 25 1 (M 11 1)) 25 2 (M 11 2)) 25 3 (M 11 3)) 25 4 (M 11 4)) 26) 0 0 30)) 27 (va_cpy ((q_row (q_set (q_set (q_set (q_set (q_set M 25 0 (M 11 0)) 25 1 (M 11 1)) 25 2 (M 11 2)) 25 3 (M 11 3)) 25 4 (M 11 4)) 26 (va_cpy ((q_set (q_set (q_set (q_set (q_set M 25 0 (M 11 0)) 25 1 (M 11 1)) 25 2 (M 11 2)) 25 3 (M 11 3)) 25 4 (M 11 4)) 12) ((q_set (q_set (q_set (q_set (q_set M 25 0 (M 11 0)) 25 1 (M 11 1)) 25 2 (M 11 2)) 25 3 (M 11 3)) 25 4 (M 11 4)) 26) 0 0 30)) 13) ((q_row (q_set (q_set (q_set (q_set (q_set M 25 0 (M 11 0)) 25 1 (M 11 1)) 25 2 (M 11 2)) 25 3 (M 11 3)) 25 4 (M 11 4)) 26 (va_cpy ((q_set (q_set (q_set (q_set (q_set M 25 0 (M 11 0)) 25 1 (M 11 1)) 25 2 (M 11 2)) 25 3 (M 11 3)) 25 4 (M 11 4)) 12) ((q_set (q_set (q_set (q_set (q_set M 25 0 (M 11 0)) 25 1 (M 11 1)) 25 2 (M 11 2)) 25 3 (M 11 3)) 25 4 (M 11 4)) 26) 0 0 30)) 27) 0 0 30)) 28) 0 0 30)) 29 (va_cpy ((q_row (q_row (q_row (q_set (q_set (q_set (q_set (q_set M 25 0 (M 11 0)) 25 1 (M 11 1)) 25 2 (M 11 2)) 25 3 (M 11 3)) 25 4 (M 11 4)) 26 (va_cpy ((q_set (q_set (q_set (q_set (q_set M 25 0 (M 11 0)) 25 1 (M 11 1)) 25 2 (M 11 2)) 25 3 (M 11 3)) 25 4 (M 11 4)) 12) ((q_set (q_set (q_set (q_set (q_set M 25 0 (M 11 0)) 25 1 (M 11 1)) 25 2 (M 11 2)) 25 3 (M 11 3)) 25 4 (M 11 4)) 26) 0 0 30)) 27 (va_cpy ((q_row (q_set (q_set (q_set (q_set (q_set M 25 0 (M 11 0)) 25 1 (M 11 1)) 25 2 (M 11 2)) 25 3 (M 11 3)) 25 4 (M 11 4)) 26 (va_cpy ((q_set (q_set (q_set (q_set (q_set M 25 0 (M 11 0)) 25 1 (M 11 1)) 25 2 (M 11 2)) 25 3 (M 11 3)) 25 4 (M 11 4)) 12) ((q_set (q_set (q_set (q_set (q_set M 25 0 (M 11 0)) 25 1 (M 11 1)) 25 2 (M 11 2)) 25 3 (M 11 3)) 25 4 (M 11 4)) 26) 0 0 30)) 13) ((q_row (q_set (q_set (q_set (q_set (q_set M 25 0 (M 11 0)) 25 1 (M 11 1)) 25 2 (M 11 2)) 25 3 (M 11 3)) 25 4 (M 11 4)) 26 (va_cpy ((q_set (q_set (q_set (q_set (q_set M 25 0 (M 11 0)) 25 1 (M 11 1)) 25 2 (M 11 2)) 25 3 (M 11 3)) 25 4 (M 11 4)) 12) ((q_set (q_set (q_set (q_set (q_set M 25 0 (M 11 0)) 25 1 (M 11 1)) 25 2 (M 11 2)) 25 3 (M 11 3)) 25 4 (M 11 4)) 26) 0 0 30)) 27) 0 0 30)) 28 (va_cpy ((q_row (q_row (q_set (q_set (q_set (q_set (q_set M 25 0 (M 11 0)) 25 1 (M 11 1)) 25 2 (M 11 2)) 25 3 (M 11 3)) 25 4 (M 11 4)) 26 (va_cpy ((q_set (q_set (q_set (q_set (q_set M 25 0 (M 11 0)) 25 1 (M 11 1)) 25 2 (M 11 2)) 25 3 (M 11 3)) 25 4 (M 11 4)) 12) ((q_set (q_set (q_set (q_set (q_set M 25 0 (M 11 0)) 25 1 (M 11 1)) 25 2 (M 11 2)) 25 3 (M 11 3)) 25 4 (M 11 4)) 26) 0 0 30)) 27 (va_cpy ((q_row (q_set (q_set (q_set (q_set (q_set M 25 0 (M 11 0)) 25 1 (M 11 1)) 25 2 (M 11 2)) 25 3 (M 11 3)) 25 4 (M 11 4)) 26 (va_cpy ((q_set (q_set (q_set (q_set (q_set M 25 0 (M 11 0)) 25 1 (M 11 1)) 25 2 (M 11 2)) 25 3 (M 11 3)) 25 4 (M 11 4)) 12) ((q_set (q_set (q_set (q_set (q_set M 25 0 (M 11 0)) 25 1 (M 11 1)) 25 2 (M 11 2)) 25 3 (M 11 3)) 25 4 (M 11 4)) 26) 0 0 30)) 13) ((q_row (q_set (q_set (q_set (q_set (q_set M 25 0 (M 11 0)) 25 1 (M 11 1)) 25 2 (M 11 2)) 25 3 (M 11 3)) 25 4 (M 11 4)) 26 (va_cpy ((q_set (q_set (q_set (q_set (q_set M 25 0 (M 11 0)) 25 1 (M 11 1)) 25 2 (M 11 2)) 25 3 (M 11 3)) 25 4 (M 11 4)) 12) ((q_set (q_set (q_set (q_set (q_set M 25 0 (M 11 0)) 25 1 (M 11 1)) 25 2 (M 11 2)) 25 3 (M 11 3)) 25 4 (M 11 4)) 26) 0 0 30)) 27) 0 0 30)) 14) ((q_row (q_row (q_set (q_set (q_set (q_set (q_set M 25 0 (M 11 0)) 25 1 (M 11 1)) 25 2 (M 11 2)) 25 3 (M 11 3)) 25 4 (M 11 4)) 26 (va_cpy ((q_set (q_set (q_set (q_set (q_set M 25 0 (M 11 0)) 25 1 (M 11 1)) 25 2 (M 11 2)) 25 3 (M 11 3)) 25 4 (M 11 4)) 12) ((q_set (q_set (q_set (q_set (q_set M 25 0 (M 11 0)) 25 1 (M 11 1)) 25 2 (M 11 2)) 25 3 (M 11 3)) 25 4 (M 11 4)) 26) 0 0 30)) 27 (va_cpy ((q_row (q_set (q_set (q_set (q_set (q_set M 25 0 (M 11 0)) 25 1 (M 11 1)) 25 2 (M 11 2)) 25 3 (M 11 3)) 25 4 (M 11 4)) 26 (va_cpy ((q_set (q_set (q_set (q_set (q_set M 25 0 (M 11 0)) 25 1 (M 11 1)) 25 2 (M 11 2)) 25 3 (M 11 3)) 25 4 (M 11 4)) 12) ((q_set (q_set (q_set (q_set (q_set M 25 0 (M 11 0)) 25 1 (M 11 1)) 25 2 (M 11 2)) 25 3 (M 11 3)) 25 4 (M 11 4)) 26) 0 0 30)) 13) ((q_row (q_set (q_set (q_set (q_set (q_set M 25 0 (M 11 0)) 25 1 (M 11 1)) 25 2 (M 11 2)) 25 3 (M 11 3)) 25 4 (M 11 4)) 26 (va_cpy ((q_set (q_set (q_set (q_set (q_set M 25 0 (M 11 0)) 25 1 (M 11 1)) 25 2 (M 11 2)) 25 3 (M 11 3)) 25 4 (M 11 4)) 12) ((q_set (q_set (q_set (q_set (q_set M 25 0 (M 11 0)) 25 1 (M 11 1)) 25 2 (M 11 2)) 25 3 (M 11 3)) 25 4 (M 11 4)) 26) 0 0 30)) 27) 0 0 30)) 28) 0 0 30)) 15) ((q_row (q_row (q_row (q_set (q_set (q_set (q_set (q_set M 25 0 (M 11 0)) 25 1 (M 11 1)) 25 2 (M 11 2)) 25 3 (M 11 3)) 25 4 (M 11 4)) 26 (va_cpy ((q_set (q_set (q_set (q_set (q_set M 25 0 (M 11 0)) 25 1 (M 11 1)) 25 2 (M 11 2)) 25 3 (M 11 3)) 25 4 (M 11 4)) 12) ((q_set (q_set (q_set (q_set (q_set M 25 0 (M 11 0)) 25 1 (M 11 1)) 25 2 (M 11 2)) 25 3 (M 11 3)) 25 4 (M 11 4)) 26) 0 0 30)) 27 (va_cpy ((q_row (q_set (q_set (q_set (q_set (q_set M 25 0 (M 11 0)) 25 1 (M 11 1)) 25 2 (M 11 2)) 25 3 (M 11 3)) 25 4 (M 11 4)) 26 (va_cpy ((q_set (q_set (q_set (q_set (q_set M 25 0 (M 11 0)) 25 1 (M 11 1)) 25 2 (M 11 2)) 25 3 (M 11 3)) 25 4 (M 11 4)) 12) ((q_set (q_set (q_set (q_set (q_set M 25 0 (M 11 0)) 25 1 (M 11 1)) 25 2 (M 11 2)) 25 3 (M 11 3)) 25 4 (M 11 4)) 26) 0 0 30)) 13) ((q_row (q_set (q_set (q_set (q_set (q_set M 25 0 (M 11 0)) 25 1 (M 11 1)) 25 2 (M 11 2)) 25 3 (M 11 3)) 25 4 (M 11 4)) 26 (va_cpy ((q_set (q_set (q_set (q_set (q_set M 25 0 (M 11 0)) 25 1 (M 11 1)) 25 2 (M 11 2)) 25 3 (M 11 3)) 25 4 (M 11 4)) 12) ((q_set (q_set (q_set (q_set (q_set M 25 0 (M 11 0)) 25 1 (M 11 1)) 25 2 (M 11 2)) 25 3 (M 11 3)) 25 4 (M 11 4)) 26) 0 0 30)) 27) 0 0 30)) 28 (va_cpy ((q_row (q_row (q_set (q_set (q_set (q_set (q_set M 25 0 (M 11 0)) 25 1 (M 11 1)) 25 2 (M 11 2)) 25 3 (M 11 3)) 25 4 (M 11 4)) 26 (va_cpy ((q_set (q_set (q_set (q_set (q_set M 25 0 (M 11 0)) 25 1 (M 11 1)) 25 2 (M 11 2)) 25 3 (M 11 3)) 25 4 (M 11 4)) 12) ((q_set (q_set (q_set (q_set (q_set M 25 0 (M 11 0)) 25 1 (M 11 1)) 25 2 (M 11 2)) 25 3 (M 11 3)) 25 4 (M 11 4)) 26) 0 0 30)) 27 (va_cpy ((q_row (q_set (q_set (q_set (q_set (q_set M 25 0 (M 11 0)) 25 1 (M 11 1)) 25 2 (M 11 2)) 25 3 (M 11 3)) 25 4 (M 11 4)) 26 (va_cpy ((q_set (q_set (q_set (q_set (q_set M 25 0 (M 11 0)) 25 1 (M 11 1)) 25 2 (M 11 2)) 25 3 (M 11 3)) 25 4 (M 11 4)) 12) ((q_set (q_set (q_set (q_set (q_set M 25 0 (M 11 0)) 25 1 (M 11 1)) 25 2 (M 11 2)) 25 3 (M 11 3)) 25 4 (M 11 4)) 26) 0 0 30)) 13) ((q_row (q_set (q_set (q_set (q_set (q_set M 25 0 (M 11 0)) 25 1 (M 11 1)) 25 2 (M 11 2)) 25 3 (M 11 3)) 25 4 (M 11 4)) 26 (va_cpy ((q_set (q_set (q_set (q_set (q_set M 25 0 (M 11 0)) 25 1 (M 11 1)) 25 2 (M 11 2)) 25 3 (M 11 3)) 25 4 (M 11 4)) 12) ((q_set (q_set (q_set (q_set (q_set M 25 0 (M 11 0)) 25 1 (M 11 1)) 25 2 (M 11 2)) 25 3 (M 11 3)) 25 4 (M 11 4)) 26) 0 0 30)) 27) 0 0 30)) 14) ((q_row (q_row (q_set (q_set (q_set (q_set (q_set M 25 0 (M 11 0)) 25 1 (M 11 1)) 25 2 (M 11 2)) 25 3 (M 11 3)) 25 4 (M 11 4)) 26 (va_cpy ((q_set (q_set (q_set (q_set (q_set M 25 0 (M 11 0)) 25 1 (M 11 1)) 25 2 (M 11 2)) 25 3 (M 11 3)) 25 4 (M 11 4)) 12) ((q_set (q_set (q_set (q_set (q_set M 25 0 (M 11 0)) 25 1 (M 11 1)) 25 2 (M 11 2)) 25 3 (M 11 3)) 25 4 (M 11 4)) 26) 0 0 30)) 27 (va_cpy ((q_row (q_set (q_set (q_set (q_set (q_set M 25 0 (M 11 0)) 25 1 (M 11 1)) 25 2 (M 11 2)) 25 3 (M 11 3)) 25 4 (M 11 4)) 26 (va_cpy ((q_set (q_set (q_set (q_set (q_set M 25 0 (M 11 0)) 25 1 (M 11 1)) 25 2 (M 11 2)) 25 3 (M 11 3)) 25 4 (M 11 4)) 12) ((q_set (q_set (q_set (q_set (q_set M 25 0 (M 11 0)) 25 1 (M 11 1)) 25 2 (M 11 2)) 25 3 (M 11 3)) 25 4 (M 11 4)) 26) 0 0 30)) 13) ((q_row (q_set (q_set (q_set (q_set (q_set M 25 0 (M 11 0)) 25 1 (M 11 1)) 25 2 (M 11 2)) 25 3 (M 11 3)) 25 4 (M 11 4)) 26 (va_cpy ((q_set (q_set (q_set (q_set (q_set M 25 0 (M 11 0)) 25 1 (M 11 1)) 25 2 (M 11 2)) 25 3 (M 11 3)) 25 4 (M 11 4)) 12) ((q_set (q_set (q_set (q_set (q_set M 25 0 (M 11 0)) 25 1 (M 11 1)) 25 2 (M 11 2)) 25 3 (M 11 3)) 25 4 (M 11 4)) 26) 0 0 30)) 27) 0 0 30)) 28) 0 0 30)) 29) 0 0 3)) 30) 0 0 3))) : q_Cv X d 15 [.ref 25, .ref 11] M K := by
  show q_Ex X d 15 0 [some (.ref 25), some (.ref 11)] [] M (q_rn K)
  refine q_aload_n (pc := 0) k15_0 rfl ?_
  refine q_aload_n (pc := 1) k15_1 rfl ?_
  refine q_getIv (pc := 2) (v := M 11 0) k15_2 fg15_30 rfl rfl rfl ?_
  refine q_putI (pc := 5) k15_5 fp15_30 rfl rfl ?_
  refine q_aload_n (pc := 8) k15_8 rfl ?_
  refine q_aload_n (pc := 9) k15_9 rfl ?_
  refine q_getIv (pc := 10) (v := M 11 1) k15_10 fg15_34 rfl rfl rfl ?_
  refine q_putI (pc := 13) k15_13 fp15_34 rfl rfl ?_
  refine q_aload_n (pc := 16) k15_16 rfl ?_
  refine q_aload_n (pc := 17) k15_17 rfl ?_
  refine q_getIv (pc := 18) (v := M 11 2) k15_18 fg15_37 rfl rfl rfl ?_
  refine q_putI (pc := 21) k15_21 fp15_37 rfl rfl ?_
  refine q_aload_n (pc := 24) k15_24 rfl ?_
  refine q_aload_n (pc := 25) k15_25 rfl ?_
  refine q_getIv (pc := 26) (v := M 11 3) k15_26 fg15_40 rfl rfl rfl ?_
  refine q_putI (pc := 29) k15_29 fp15_40 rfl rfl ?_
  refine q_aload_n (pc := 32) k15_32 rfl ?_
  refine q_aload_n (pc := 33) k15_33 rfl ?_
  refine q_getIv (pc := 34) (v := M 11 4) k15_34 fg15_43 rfl rfl rfl ?_
  refine q_putI (pc := 37) k15_37 fp15_43 rfl rfl ?_
  refine q_aload_n (pc := 40) k15_40 rfl ?_
  refine q_getR (pc := 41) k15_41 fg15_9 rfl rfl ?_
  refine q_iconst (pc := 44) (v := 0) k15_44 (by decide) ?_
  refine q_aload_n (pc := 45) k15_45 rfl ?_
  refine q_getR (pc := 46) k15_46 fg15_9 rfl rfl ?_
  refine q_iconst (pc := 49) (v := 0) k15_49 (by decide) ?_
  refine q_bipush (pc := 50) (v := 30) k15_50 (by decide) ?_
  refine q_copy (pc := 52) k15_52 lc15_46 oc_copy rfl rfl rfl rfl (by decide) (by decide) (by decide) (Nat.le_of_ble_eq_true rfl) ?_
  refine q_aload_n (pc := 55) k15_55 rfl ?_
  refine q_getR (pc := 56) k15_56 fg15_15 rfl rfl ?_
  refine q_iconst (pc := 59) (v := 0) k15_59 (by decide) ?_
  refine q_aload_n (pc := 60) k15_60 rfl ?_
  refine q_getR (pc := 61) k15_61 fg15_15 rfl rfl ?_
  refine q_iconst (pc := 64) (v := 0) k15_64 (by decide) ?_
  refine q_bipush (pc := 65) (v := 30) k15_65 (by decide) ?_
  refine q_copy (pc := 67) k15_67 lc15_46 oc_copy rfl rfl rfl rfl (by decide) (by decide) (by decide) (Nat.le_of_ble_eq_true rfl) ?_
  refine q_aload_n (pc := 70) k15_70 rfl ?_
  refine q_getR (pc := 71) k15_71 fg15_18 rfl rfl ?_
  refine q_iconst (pc := 74) (v := 0) k15_74 (by decide) ?_
  refine q_aload_n (pc := 75) k15_75 rfl ?_
  refine q_getR (pc := 76) k15_76 fg15_18 rfl rfl ?_
  refine q_iconst (pc := 79) (v := 0) k15_79 (by decide) ?_
  refine q_bipush (pc := 80) (v := 30) k15_80 (by decide) ?_
  refine q_copy (pc := 82) k15_82 lc15_46 oc_copy rfl rfl rfl rfl (by decide) (by decide) (by decide) (Nat.le_of_ble_eq_true rfl) ?_
  refine q_aload_n (pc := 85) k15_85 rfl ?_
  refine q_getR (pc := 86) k15_86 fg15_21 rfl rfl ?_
  refine q_iconst (pc := 89) (v := 0) k15_89 (by decide) ?_
  refine q_aload_n (pc := 90) k15_90 rfl ?_
  refine q_getR (pc := 91) k15_91 fg15_21 rfl rfl ?_
  refine q_iconst (pc := 94) (v := 0) k15_94 (by decide) ?_
  refine q_iconst (pc := 95) (v := 3) k15_95 (by decide) ?_
  refine q_copy (pc := 96) k15_96 lc15_46 oc_copy rfl rfl rfl rfl (by decide) (by decide) (by decide) (Nat.le_of_ble_eq_true rfl) ?_
  refine q_aload_n (pc := 99) k15_99 rfl ?_
  refine q_getR (pc := 100) k15_100 fg15_24 rfl rfl ?_
  refine q_iconst (pc := 103) (v := 0) k15_103 (by decide) ?_
  refine q_aload_n (pc := 104) k15_104 rfl ?_
  refine q_getR (pc := 105) k15_105 fg15_24 rfl rfl ?_
  refine q_iconst (pc := 108) (v := 0) k15_108 (by decide) ?_
  refine q_iconst (pc := 109) (v := 3) k15_109 (by decide) ?_
  refine q_copy (pc := 110) k15_110 lc15_46 oc_copy rfl rfl rfl rfl (by decide) (by decide) (by decide) (Nat.le_of_ble_eq_true rfl) ?_
  exact q_return (pc := 113) k15_113 rfl ⟨rfl, h⟩
set_option maxRecDepth 20000 in
theorem vc15_11_25 {X : Nat × (Nat → Int32)} {d : Nat} (hd : 0 < d) {M : q_M} {K : q_M → Prop} (h : K (q_row (q_row (q_row (q_row (q_row (q_set (q_set (q_set (q_set (q_set M 11 0 (M 25 0)) 11 1 (M 25 1)) 11 2 (M 25 2)) 11 3 (M 25 3)) 11 4 (M 25 4)) 12 (va_cpy ((q_set (q_set (q_set (q_set (q_set M 11 0 (M 25 0)) 11 1 (M 25 1)) 11 2 (M 25 2)) 11 3 (M 25 3)) 11 4 (M 25 4)) 26) ((q_set (q_set (q_set (q_set (q_set M 11 0 (M 25 0)) 11 1 (M 25 1)) 11 2 (M 25 2)) 11 3 (M 25 3)) 11 4 (M 25 4)) 12) 0 0 30)) 13 (va_cpy ((q_row (q_set (q_set (q_set (q_set (q_set M 11 0 (M 25 0)) 11 1 (M 25 1)) 11 2 (M 25 2)) 11 3 (M 25 3)) 11 4 (M 25 4)) 12 (va_cpy ((q_set (q_set (q_set (q_set (q_set M 11 0 (M 25 0)) 11 1 (M 25 1)) 11 2 (M 25 2)) 11 3 (M 25 3)) 11 4 (M 25 4)) 26) ((q_set (q_set (q_set (q_set (q_set M 11 0 (M 25 0)) 11 1 (M 25 1)) 11 2 (M 25 2)) 11 3 (M 25 3)) 11 4 (M 25 4)) 12) 0 0 30)) 27) ((q_row (q_set (q_set (q_set (q_set (q_set M 11 0 (M 25 0)) 11 1 (M 25 1)) 11 2 (M 25 2)) 11 3 (M 25 3)) 11 4 (M 25 4)) 12 (va_cpy ((q_set (q_set (q_set (q_set (q_set M 11 0 (M 25 0)) 11 1 (M 25 1)) 11 2 (M 25 2)) 11 3 (M 25 3)) 11 4 (M 25 4)) 26) ((q_set (q_set (q_set (q_set (q_set M 11 0 (M 25 0)) 11 1 (M 25 1)) 11 2 (M 25 2)) 11 3 (M 25 3)) 11 4 (M 25 4)) 12) 0 0 30)) 13) 0 0 30)) 14 (va_cpy ((q_row (q_row (q_set (q_set (q_set (q_set (q_set M 11 0 (M 25 0)) 11 1 (M 25 1)) 11 2 (M 25 2)) 11 3 (M 25 3)) 11 4 (M 25 4)) 12 (va_cpy ((q_set (q_set (q_set (q_set (q_set M 11 0 (M 25 0)) 11 1 (M 25 1)) 11 2 (M 25 2)) 11 3 (M 25 3)) 11 4 (M 25 4)) 26) ((q_set (q_set (q_set (q_set (q_set M 11 0 (M 25 0)) 11 1 (M 25 1)) 11 2 (M 25 2)) 11 3 (M 25 3)) 11 4 (M 25 4)) 12) 0 0 30)) 13 (va_cpy ((q_row (q_set (q_set (q_set (q_set (q_set M 11 0 (M 25 0)) 11 1 (M 25 1)) 11 2 (M 25 2)) 11 3 (M 25 3)) 11 4 (M 25 4)) 12 (va_cpy ((q_set (q_set (q_set (q_set (q_set M 11 0 (M 25 0)) 11 1 (M 25 1)) 11 2 (M 25 2)) 11 3 (M 25 3)) 11 4 (M 25 4)) 26) ((q_set (q_set (q_set (q_set (q_set M 11 0 (M 25 0)) 11 1 (M 25 1)) 11 2 (M 25 2)) 11 3 (M 25 3)) 11 4 (M 25 4)) 12) 0 0 30)) 27) ((q_row (q_set (q_set (q_set (q_set (q_set M 11 0 (M 25 0)) 11 1 (M 25 1)) 11 2 (M 25 2)) 11 3 (M 25 3)) 11 4 (M 25 4)) 12 (va_cpy ((q_set (q_set (q_set (q_set (q_set M 11 0 (M 25 0)) 11 1 (M 25 1)) 11 2 (M 25 2)) 11 3 (M 25 3)) 11 4 (M 25 4)) 26) ((q_set (q_set (q_set (q_set (q_set M 11 0 (M 25 0)) 11 1 (M 25 1)) 11 2 (M 25 2)) 11 3 (M 25 3)) 11 4 (M 25 4)) 12) 0 0 30)) 13) 0 0 30)) 28) ((q_row (q_row (q_set (q_set (q_set (q_set (q_set M 11 0 (M 25 0)) 11 1 (M 25 1)) 11 2 (M 25 2)) 11 3 (M 25 3)) 11 4 (M 25 4)) 12 (va_cpy ((q_set (q_set (q_set (q_set (q_set M 11 0 (M 25 0)) 11 1 (M 25 1)) 11 2 (M 25 2)) 11 3 (M 25 3)) 11 4 (M 25 4)) 26) ((q_set (q_set (q_set (q_set (q_set M 11 0 (M 25 0)) 11 1 (M 25 1)) 11 2 (M 25 2)) 11 3 (M 25 3)) 11 4 (M 25 4)) 12) 0 0 30)) 13 (va_cpy ((q_row (q_set (q_set (q_set (q_set (q_set M 11 0 (M 25 0)) 11 1 (M 25 1)) 11 2 (M 25 2)) 11 3 (M 25 3)) 11 4 (M 25 4)) 12 (va_cpy ((q_set (q_set (q_set (q_set (q_set M 11 0 (M 25 0)) 11 1 (M 25 1)) 11 2 (M 25 2)) 11 3 (M 25 3)) 11 4 (M 25 4)) 26) ((q_set (q_set (q_set (q_set (q_set M 11 0 (M 25 0)) 11 1 (M 25 1)) 11 2 (M 25 2)) 11 3 (M 25 3)) 11 4 (M 25 4)) 12) 0 0 30)) 27) ((q_row (q_set (q_set (q_set (q_set (q_set M 11 0 (M 25 0)) 11 1 (M 25 1)) 11 2 (M 25 2)) 11 3 (M 25 3)) 11 4 (M 25 4)) 12 (va_cpy ((q_set (q_set (q_set (q_set (q_set M 11 0 (M 25 0)) 11 1 (M 25 1)) 11 2 (M 25 2)) 11 3 (M 25 3)) 11 4 (M 25 4)) 26) ((q_set (q_set (q_set (q_set (q_set M 11 0 (M 25 0)) 11 1 (M 25 1)) 11 2 (M 25 2)) 11 3 (M 25 3)) 11 4 (M 25 4)) 12) 0 0 30)) 13) 0 0 30)) 14) 0 0 30)) 15 (va_cpy ((q_row (q_row (q_row (q_set (q_set (q_set (q_set (q_set M 11 0 (M 25 0)) 11 1 (M 25 1)) 11 2 (M 25 2)) 11 3 (M 25 3)) 11 4 (M 25 4)) 12 (va_cpy ((q_set (q_set (q_set (q_set (q_set M 11 0 (M 25 0)) 11 1 (M 25 1)) 11 2 (M 25 2)) 11 3 (M 25 3)) 11 4 (M 25 4)) 26) ((q_set (q_set (q_set (q_set (q_set M 11 0 (M 25 0)) 11 1 (M 25 1)) 11 2 (M 25 2)) 11 3 (M 25 3)) 11 4 (M 25 4)) 12) 0 0 30)) 13 (va_cpy ((q_row (q_set (q_set (q_set (q_set (q_set M 11 0 (M 25 0)) 11 1 (M 25 1)) 11 2 (M 25 2)) 11 3 (M 25 3)) 11 4 (M 25 4)) 12 (va_cpy ((q_set (q_set (q_set (q_set (q_set M 11 0 (M 25 0)) 11 1 (M 25 1)) 11 2 (M 25 2)) 11 3 (M 25 3)) 11 4 (M 25 4)) 26) ((q_set (q_set (q_set (q_set (q_set M 11 0 (M 25 0)) 11 1 (M 25 1)) 11 2 (M 25 2)) 11 3 (M 25 3)) 11 4 (M 25 4)) 12) 0 0 30)) 27) ((q_row (q_set (q_set (q_set (q_set (q_set M 11 0 (M 25 0)) 11 1 (M 25 1)) 11 2 (M 25 2)) 11 3 (M 25 3)) 11 4 (M 25 4)) 12 (va_cpy ((q_set (q_set (q_set (q_set (q_set M 11 0 (M 25 0)) 11 1 (M 25 1)) 11 2 (M 25 2)) 11 3 (M 25 3)) 11 4 (M 25 4)) 26) ((q_set (q_set (q_set (q_set (q_set M 11 0 (M 25 0)) 11 1 (M 25 1)) 11 2 (M 25 2)) 11 3 (M 25 3)) 11 4 (M 25 4)) 12) 0 0 30)) 13) 0 0 30)) 14 (va_cpy ((q_row (q_row (q_set (q_set (q_set (q_set (q_set M 11 0 (M 25 0)) 11 1 (M 25 1)) 11 2 (M 25 2)) 11 3 (M 25 3)) 11 4 (M 25 4)) 12 (va_cpy ((q_set (q_set (q_set (q_set (q_set M 11 0 (M 25 0)) 11 1 (M 25 1)) 11 2 (M 25 2)) 11 3 (M 25 3)) 11 4 (M 25 4)) 26) ((q_set (q_set (q_set (q_set (q_set M 11 0 (M 25 0)) 11 1 (M 25 1)) 11 2 (M 25 2)) 11 3 (M 25 3)) 11 4 (M 25 4)) 12) 0 0 30)) 13 (va_cpy ((q_row (q_set (q_set (q_set (q_set (q_set M 11 0 (M 25 0)) 11 1 (M 25 1)) 11 2 (M 25 2)) 11 3 (M 25 3)) 11 4 (M 25 4)) 12 (va_cpy ((q_set (q_set (q_set (q_set (q_set M 11 0 (M 25 0)) 11 1 (M 25 1)) 11 2 (M 25 2)) 11 3 (M 25 3)) 11 4 (M 25 4)) 26) ((q_set (q_set (q_set (q_set (q_set M 11 0 (M 25 0)) 11 1 (M 25 1)) 11 2 (M 25 2)) 11 3 (M 25 3)) 11 4 (M 25 4)) 12) 0 0 30)) 27) ((q_row (q_set (q_set (q_set (q_set (q_set M 11 0 (M 25 0)) 11 1 (M 25 1)) 11 2 (M 25 2)) 11 3 (M 25 3)) 11 4 (M 25 4)) 12 (va_cpy ((q_set (q_set (q_set (q_set (q_set M 11 0 (M 25 0)) 11 1 (M 25 1)) 11 2 (M 25 2)) 11 3 (M 25 3)) 11 4 (M 25 4)) 26) ((q_set (q_set (q_set (q_set (q_set M 11 0 (M 25 0)) 11 1 (M 25 1)) 11 2 (M 25 2)) 11 3 (M 25 3)) 11 4 (M 25 4)) 12) 0 0 30)) 13) 0 0 30)) 28) ((q_row (q_row (q_set (q_set (q_set (q_set (q_set M 11 0 (M 25 0)) 11 1 (M 25 1)) 11 2 (M 25 2)) 11 3 (M 25 3)) 11 4 (M 25 4)) 12 (va_cpy ((q_set (q_set (q_set (q_set (q_set M 11 0 (M 25 0)) 11 1 (M 25 1)) 11 2 (M 25 2)) 11 3 (M 25 3)) 11 4 (M 25 4)) 26) ((q_set (q_set (q_set (q_set (q_set M 11 0 (M 25 0)) 11 1 (M 25 1)) 11 2 (M 25 2)) 11 3 (M 25 3)) 11 4 (M 25 4)) 12) 0 0 30)) 13 (va_cpy ((q_row (q_set (q_set (q_set (q_set (q_set M 11 0 (M 25 0)) 11 1 (M 25 1)) 11 2 (M 25 2)) 11 3 (M 25 3)) 11 4 (M 25 4)) 12 (va_cpy ((q_set (q_set (q_set (q_set (q_set M 11 0 (M 25 0)) 11 1 (M 25 1)) 11 2 (M 25 2)) 11 3 (M 25 3)) 11 4 (M 25 4)) 26) ((q_set (q_set (q_set (q_set (q_set M 11 0 (M 25 0)) 11 1 (M 25 1)) 11 2 (M 25 2)) 11 3 (M 25 3)) 11 4 (M 25 4)) 12) 0 0 30)) 27) ((q_row (q_set (q_set (q_set (q_set (q_set M 11 0 (M 25 0)) 11 1 (M 25 1)) 11 2 (M 25 2)) 11 3 (M 25 3)) 11 4 (M 25 4)) 12 (va_cpy ((q_set (q_set (q_set (q_set (q_set M 11 0 (M 25 0)) 11 1 (M 25 1)) 11 2 (M 25 2)) 11 3 (M 25 3)) 11 4 (M 25 4)) 26) ((q_set (q_set (q_set (q_set (q_set M 11 0 (M 25 0)) 11 1 (M 25 1)) 11 2 (M 25 2)) 11 3 (M 25 3)) 11 4 (M 25 4)) 12) 0 0 30)) 13) 0 0 30)) 14) 0 0 30)) 29) ((q_row (q_row (q_row (q_set (q_set (q_set (q_set (q_set M 11 0 (M 25 0)) 11 1 (M 25 1)) 11 2 (M 25 2)) 11 3 (M 25 3)) 11 4 (M 25 4)) 12 (va_cpy ((q_set (q_set (q_set (q_set (q_set M 11 0 (M 25 0)) 11 1 (M 25 1)) 11 2 (M 25 2)) 11 3 (M 25 3)) 11 4 (M 25 4)) 26) ((q_set (q_set (q_set (q_set (q_set M 11 0 (M 25 0)) 11 1 (M 25 1)) 11 2 (M 25 2)) 11 3 (M 25 3)) 11 4 (M 25 4)) 12) 0 0 30)) 13 (va_cpy ((q_row (q_set (q_set (q_set (q_set (q_set M 11 0 (M 25 0)) 11 1 (M 25 1)) 11 2 (M 25 2)) 11 3 (M 25 3)) 11 4 (M 25 4)) 12 (va_cpy ((q_set (q_set (q_set (q_set (q_set M 11 0 (M 25 0)) 11 1 (M 25 1)) 11 2 (M 25 2)) 11 3 (M 25 3)) 11 4 (M 25 4)) 26) ((q_set (q_set (q_set (q_set (q_set M 11 0 (M 25 0)) 11 1 (M 25 1)) 11 2 (M 25 2)) 11 3 (M 25 3)) 11 4 (M 25 4)) 12) 0 0 30)) 27) ((q_row (q_set (q_set (q_set (q_set (q_set M 11 0 (M 25 0)) 11 1 (M 25 1)) 11 2 (M 25 2)) 11 3 (M 25 3)) 11 4 (M 25 4)) 12 (va_cpy ((q_set (q_set (q_set (q_set (q_set M 11 0 (M 25 0)) 11 1 (M 25 1)) 11 2 (M 25 2)) 11 3 (M 25 3)) 11 4 (M 25 4)) 26) ((q_set (q_set (q_set (q_set (q_set M 11 0 (M 25 0)) 11 1 (M 25 1)) 11 2 (M 25 2)) 11 3 (M 25 3)) 11 4 (M 25 4)) 12) 0 0 30)) 13) 0 0 30)) 14 (va_cpy ((q_row (q_row (q_set (q_set (q_set (q_set (q_set M 11 0 (M 25 0)) 11 1 (M 25 1)) 11 2 (M 25 2)) 11 3 (M 25 3)) 11 4 (M 25 4)) 12 (va_cpy ((q_set (q_set (q_set (q_set (q_set M 11 0 (M 25 0)) 11 1 (M 25 1)) 11 2 (M 25 2)) 11 3 (M 25 3)) 11 4 (M 25 4)) 26) ((q_set (q_set (q_set (q_set (q_set M 11 0 (M 25 0)) 11 1 (M 25 1)) 11 2 (M 25 2)) 11 3 (M 25 3)) 11 4 (M 25 4)) 12) 0 0 30)) 13 (va_cpy ((q_row (q_set (q_set (q_set (q_set (q_set M 11 0 (M 25 0)) 11 1 (M 25 1)) 11 2 (M 25 2)) 11 3 (M 25 3)) 11 4 (M 25 4)) 12 (va_cpy ((q_set (q_set (q_set (q_set (q_set M 11 0 (M 25 0)) 11 1 (M 25 1)) 11 2 (M 25 2)) 11 3 (M 25 3)) 11 4 (M 25 4)) 26) ((q_set (q_set (q_set (q_set (q_set M 11 0 (M 25 0)) 11 1 (M 25 1)) 11 2 (M 25 2)) 11 3 (M 25 3)) 11 4 (M 25 4)) 12) 0 0 30)) 27) ((q_row (q_set (q_set (q_set (q_set (q_set M 11 0 (M 25 0)) 11 1 (M 25 1)) 11 2 (M 25 2)) 11 3 (M 25 3)) 11 4 (M 25 4)) 12 (va_cpy ((q_set (q_set (q_set (q_set (q_set M 11 0 (M 25 0)) 11 1 (M 25 1)) 11 2 (M 25 2)) 11 3 (M 25 3)) 11 4 (M 25 4)) 26) ((q_set (q_set (q_set (q_set (q_set M 11 0 (M 25 0)) 11 1 (M 25 1)) 11 2 (M 25 2)) 11 3 (M 25 3)) 11 4 (M 25 4)) 12) 0 0 30)) 13) 0 0 30)) 28) ((q_row (q_row (q_set (q_set (q_set (q_set (q_set M 11 0 (M 25 0)) 11 1 (M 25 1)) 11 2 (M 25 2)) 11 3 (M 25 3)) 11 4 (M 25 4)) 12 (va_cpy ((q_set (q_set (q_set (q_set (q_set M 11 0 (M 25 0)) 11 1 (M 25 1)) 11 2 (M 25 2)) 11 3 (M 25 3)) 11 4 (M 25 4)) 26) ((q_set (q_set (q_set (q_set (q_set M 11 0 (M 25 0)) 11 1 (M 25 1)) 11 2 (M 25 2)) 11 3 (M 25 3)) 11 4 (M 25 4)) 12) 0 0 30)) 13 (va_cpy ((q_row (q_set (q_set (q_set (q_set (q_set M 11 0 (M 25 0)) 11 1 (M 25 1)) 11 2 (M 25 2)) 11 3 (M 25 3)) 11 4 (M 25 4)) 12 (va_cpy ((q_set (q_set (q_set (q_set (q_set M 11 0 (M 25 0)) 11 1 (M 25 1)) 11 2 (M 25 2)) 11 3 (M 25 3)) 11 4 (M 25 4)) 26) ((q_set (q_set (q_set (q_set (q_set M 11 0 (M 25 0)) 11 1 (M 25 1)) 11 2 (M 25 2)) 11 3 (M 25 3)) 11 4 (M 25 4)) 12) 0 0 30)) 27) ((q_row (q_set (q_set (q_set (q_set (q_set M 11 0 (M 25 0)) 11 1 (M 25 1)) 11 2 (M 25 2)) 11 3 (M 25 3)) 11 4 (M 25 4)) 12 (va_cpy ((q_set (q_set (q_set (q_set (q_set M 11 0 (M 25 0)) 11 1 (M 25 1)) 11 2 (M 25 2)) 11 3 (M 25 3)) 11 4 (M 25 4)) 26) ((q_set (q_set (q_set (q_set (q_set M 11 0 (M 25 0)) 11 1 (M 25 1)) 11 2 (M 25 2)) 11 3 (M 25 3)) 11 4 (M 25 4)) 12) 0 0 30)) 13) 0 0 30)) 14) 0 0 30)) 15) 0 0 3)) 16 (va_cpy ((q_row (q_row (q_row (q_row (q_set (q_set (q_set (q_set (q_set M 11 0 (M 25 0)) 11 1 (M 25 1)) 11 2 (M 25 2)) 11 3 (M 25 3)) 11 4 (M 25 4)) 12 (va_cpy ((q_set (q_set (q_set (q_set (q_set M 11 0 (M 25 0)) 11 1 (M 25 1)) 11 2 (M 25 2)) 11 3 (M 25 3)) 11 4 (M 25 4)) 26) ((q_set (q_set (q_set (q_set (q_set M 11 0 (M 25 0)) 11 1 (M 25 1)) 11 2 (M 25 2)) 11 3 (M 25 3)) 11 4 (M 25 4)) 12) 0 0 30)) 13 (va_cpy ((q_row (q_set (q_set (q_set (q_set (q_set M 11 0 (M 25 0)) 11 1 (M 25 1)) 11 2 (M 25 2)) 11 3 (M 25 3)) 11 4 (M 25 4)) 12 (va_cpy ((q_set (q_set (q_set (q_set (q_set M 11 0 (M 25 0)) 11 1 (M 25 1)) 11 2 (M 25 2)) 11 3 (M 25 3)) 11 4 (M 25 4)) 26) ((q_set (q_set (q_set (q_set (q_set M 11 0 (M 25 0)) 11 1 (M 25 1)) 11 2 (M 25 2)) 11 3 (M 25 3)) 11 4 (M 25 4)) 12) 0 0 30)) 27) ((q_row (q_set (q_set (q_set (q_set (q_set M 11 0 (M 25 0)) 11 1 (M 25 1)) 11 2 (M 25 2)) 11 3 (M 25 3)) 11 4 (M 25 4)) 12 (va_cpy ((q_set (q_set (q_set (q_set (q_set M 11 0 (M 25 0)) 11 1 (M 25 1)) 11 2 (M 25 2)) 11 3 (M 25 3)) 11 4 (M 25 4)) 26) ((q_set (q_set (q_set (q_set (q_set M 11 0 (M 25 0)) 11 1 (M 25 1)) 11 2 (M 25 2)) 11 3 (M 25 3)) 11 4 (M 25 4)) 12) 0 0 30)) 13) 0 0 30)) 14 (va_cpy ((q_row (q_row (q_set (q_set (q_set (q_set (q_set M 11 0 (M 25 0)) 11 1 (M 25 1)) 11 2 (M 25 2)) 11 3 (M 25 3)) 11 4 (M 25 4)) 12 (va_cpy ((q_set (q_set (q_set (q_set (q_set M 11 0 (M 25 0)) 11 1 (M 25 1)) 11 2 (M 25 2)) 11 3 (M 25 3)) 11 4 (M 25 4)) 26) ((q_set (q_set (q_set (q_set (q_set M 11 0 (M 25 0)) 11 1 (M 25 1)) 11 2 (M 25 2)) 11 3 (M 25 3)) 11 4 (M 25 4)) 12) 0 0 30)) 13 (va_cpy ((q_row (q_set (q_set (q_set (q_set (q_set M 11 0 (M 25 0)) 11 1 (M 25 1)) 11 2 (M 25 2)) 11 3 (M 25 3)) 11 4 (M 25 4)) 12 (va_cpy ((q_set (q_set (q_set (q_set (q_set M 11 0 (M 25 0)) 11 1 (M 25 1)) 11 2 (M 25 2)) 11 3 (M 25 3)) 11 4 (M 25 4)) 26) ((q_set (q_set (q_set (q_set (q_set M 11 0 (M 25 0)) 11 1 (M 25 1)) 11 2 (M 25 2)) 11 3 (M 25 3)) 11 4 (M 25 4)) 12) 0 0 30)) 27) ((q_row (q_set (q_set (q_set (q_set (q_set M 11 0 (M 25 0)) 11 1 (M 25 1)) 11 2 (M 25 2)) 11 3 (M 25 3)) 11 4 (M 25 4)) 12 (va_cpy ((q_set (q_set (q_set (q_set (q_set M 11 0 (M 25 0)) 11 1 (M 25 1)) 11 2 (M 25 2)) 11 3 (M 25 3)) 11 4 (M 25 4)) 26) ((q_set (q_set (q_set (q_set (q_set M 11 0 (M 25 0)) 11 1 (M 25 1)) 11 2 (M 25 2)) 11 3 (M 25 3)) 11 4 (M 25 4)) 12) 0 0 30)) 13) 0 0 30)) 28) ((q_row (q_row (q_set (q_set (q_set (q_set (q_set M 11 0 (M 25 0)) 11 1 (M 25 1)) 11 2 (M 25 2)) 11 3 (M 25 3)) 11 4 (M 25 4)) 12 (va_cpy ((q_set (q_set (q_set (q_set (q_set M 11 0 (M 25 0)) 11 1 (M 25 1)) 11 2 (M 25 2)) 11 3 (M 25 3)) 11 4 (M 25 4)) 26) ((q_set (q_set (q_set (q_set (q_set M 11 0 (M 25 0)) 11 1 (M 25 1)) 11 2 (M 25 2)) 11 3 (M 25 3)) 11 4 (M 25 4)) 12) 0 0 30)) 13 (va_cpy ((q_row (q_set (q_set (q_set (q_set (q_set M 11 0 (M 25 0)) 11 1 (M 25 1)) 11 2 (M 25 2)) 11 3 (M 25 3)) 11 4 (M 25 4)) 12 (va_cpy ((q_set (q_set (q_set (q_set (q_set M 11 0 (M 25 0)) 11 1 (M 25 1)) 11 2 (M 25 2)) 11 3 (M 25 3)) 11 4 (M 25 4)) 26) ((q_set (q_set (q_set (q_set (q_set M 11 0 (M 25 0)) 11 1 (M 25 1)) 11 2 (M 25 2)) 11 3 (M 25 3)) 11 4 (M 25 4)) 12) 0 0 30)) 27) ((q_row (q_set (q_set (q_set (q_set (q_set M 11 0 (M 25 0)) 11 1 (M 25 1)) 11 2 (M 25 2)) 11 3 (M 25 3)) 11 4 (M 25 4)) 12 (va_cpy ((q_set (q_set (q_set (q_set (q_set M 11 0 (M 25 0)) 11 1 (M 25 1)) 11 2 (M 25 2)) 11 3 (M 25 3)) 11 4 (M 25 4)) 26) ((q_set (q_set (q_set (q_set (q_set M 11 0 (M 25 0)) 11 1 (M 25 1)) 11 2 (M 25 2)) 11 3 (M 25 3)) 11 4 (M 25 4)) 12) 0 0 30)) 13) 0 0 30)) 14) 0 0 30)) 15 (va_cpy ((q_row (q_row (q_row (q_set (q_set (q_set (q_set (q_set M 11 0 (M 25 0)) 11 1 (M 25 1)) 11 2 (M 25 2)) 11 3 (M 25 3)) 11 4 (M 25 4)) 12 (va_cpy ((q_set (q_set (q_set (q_set (q_set M 11 0 (M 25 0)) 11 1 (M 25 1)) 11 2 (M 25 2)) 11 3 (M 25 3)) 11 4 (M 25 4)) 26) ((q_set (q_set (q_set (q_set (q_set M 11 0 (M 25 0)) 11 1 (M 25 1)) 11 2 (M 25 2)) 11 3 (M 25 3)) 11 4 (M 25 4)) 12) 0 0 30)) 13 (va_cpy ((q_row (q_set (q_set (q_set (q_set (q_set M 11 0 (M 25 0)) 11 1 (M 25 1)) 11 2 (M 25 2)) 11 3 (M 25 3)) 11 4 (M 25 4)) 12 (va_cpy ((q_set (q_set (q_set (q_set (q_set M 11 0 (M 25 0)) 11 1 (M 25 1)) 11 2 (M 25 2)) 11 3 (M 25 3)) 11 4 (M 25 4)) 26) ((q_set (q_set (q_set (q_set (q_set M 11 0 (M 25 0)) 11 1 (M 25 1)) 11 2 (M 25 2)) 11 3 (M 25 3)) 11 4 (M 25 4)) 12) 0 0 30)) 27) ((q_row (q_set (q_set (q_set (q_set (q_set M 11 0 (M 25 0)) 11 1 (M 25 1)) 11 2 (M 25 2)) 11 3 (M 25 3)) 11 4 (M 25 4)) 12 (va_cpy ((q_set (q_set (q_set (q_set (q_set M 11 0 (M 25 0)) 11 1 (M 25 1)) 11 2 (M 25 2)) 11 3 (M 25 3)) 11 4 (M 25 4)) 26) ((q_set (q_set (q_set (q_set (q_set M 11 0 (M 25 0)) 11 1 (M 25 1)) 11 2 (M 25 2)) 11 3 (M 25 3)) 11 4 (M 25 4)) 12) 0 0 30)) 13) 0 0 30)) 14 (va_cpy ((q_row (q_row (q_set (q_set (q_set (q_set (q_set M 11 0 (M 25 0)) 11 1 (M 25 1)) 11 2 (M 25 2)) 11 3 (M 25 3)) 11 4 (M 25 4)) 12 (va_cpy ((q_set (q_set (q_set (q_set (q_set M 11 0 (M 25 0)) 11 1 (M 25 1)) 11 2 (M 25 2)) 11 3 (M 25 3)) 11 4 (M 25 4)) 26) ((q_set (q_set (q_set (q_set (q_set M 11 0 (M 25 0)) 11 1 (M 25 1)) 11 2 (M 25 2)) 11 3 (M 25 3)) 11 4 (M 25 4)) 12) 0 0 30)) 13 (va_cpy ((q_row (q_set (q_set (q_set (q_set (q_set M 11 0 (M 25 0)) 11 1 (M 25 1)) 11 2 (M 25 2)) 11 3 (M 25 3)) 11 4 (M 25 4)) 12 (va_cpy ((q_set (q_set (q_set (q_set (q_set M 11 0 (M 25 0)) 11 1 (M 25 1)) 11 2 (M 25 2)) 11 3 (M 25 3)) 11 4 (M 25 4)) 26) ((q_set (q_set (q_set (q_set (q_set M 11 0 (M 25 0)) 11 1 (M 25 1)) 11 2 (M 25 2)) 11 3 (M 25 3)) 11 4 (M 25 4)) 12) 0 0 30)) 27) ((q_row (q_set (q_set (q_set (q_set (q_set M 11 0 (M 25 0)) 11 1 (M 25 1)) 11 2 (M 25 2)) 11 3 (M 25 3)) 11 4 (M 25 4)) 12 (va_cpy ((q_set (q_set (q_set (q_set (q_set M 11 0 (M 25 0)) 11 1 (M 25 1)) 11 2 (M 25 2)) 11 3 (M 25 3)) 11 4 (M 25 4)) 26) ((q_set (q_set (q_set (q_set (q_set M 11 0 (M 25 0)) 11 1 (M 25 1)) 11 2 (M 25 2)) 11 3 (M 25 3)) 11 4 (M 25 4)) 12) 0 0 30)) 13) 0 0 30)) 28) ((q_row (q_row (q_set (q_set (q_set (q_set (q_set M 11 0 (M 25 0)) 11 1 (M 25 1)) 11 2 (M 25 2)) 11 3 (M 25 3)) 11 4 (M 25 4)) 12 (va_cpy ((q_set (q_set (q_set (q_set (q_set M 11 0 (M 25 0)) 11 1 (M 25 1)) 11 2 (M 25 2)) 11 3 (M 25 3)) 11 4 (M 25 4)) 26) ((q_set (q_set (q_set (q_set (q_set M 11 0 (M 25 0)) 11 1 (M 25 1)) 11 2 (M 25 2)) 11 3 (M 25 3)) 11 4 (M 25 4)) 12) 0 0 30)) 13 (va_cpy ((q_row (q_set (q_set (q_set (q_set (q_set M 11 0 (M 25 0)) 11 1 (M 25 1)) 11 2 (M 25 2)) 11 3 (M 25 3)) 11 4 (M 25 4)) 12 (va_cpy ((q_set (q_set (q_set (q_set (q_set M 11 0 (M 25 0)) 11 1 (M 25 1)) 11 2 (M 25 2)) 11 3 (M 25 3)) 11 4 (M 25 4)) 26) ((q_set (q_set (q_set (q_set (q_set M 11 0 (M 25 0)) 11 1 (M 25 1)) 11 2 (M 25 2)) 11 3 (M 25 3)) 11 4 (M 25 4)) 12) 0 0 30)) 27) ((q_row (q_set (q_set (q_set (q_set (q_set M 11 0 (M 25 0)) 11 1 (M 25 1)) 11 2 (M 25 2)) 11 3 (M 25 3)) 11 4 (M 25 4)) 12 (va_cpy ((q_set (q_set (q_set (q_set (q_set M 11 0 (M 25 0)) 11 1 (M 25 1)) 11 2 (M 25 2)) 11 3 (M 25 3)) 11 4 (M 25 4)) 26) ((q_set (q_set (q_set (q_set (q_set M 11 0 (M 25 0)) 11 1 (M 25 1)) 11 2 (M 25 2)) 11 3 (M 25 3)) 11 4 (M 25 4)) 12) 0 0 30)) 13) 0 0 30)) 14) 0 0 30)) 29) ((q_row (q_row (q_row (q_set (q_set (q_set (q_set (q_set M 11 0 (M 25 0)) 11 1 (M 25 1)) 11 2 (M 25 2)) 11 3 (M 25 3)) 11 4 (M 25 4)) 12 (va_cpy ((q_set (q_set (q_set (q_set (q_set M 11 0 (M 25 0)) 11 1 (M 25 1)) 11 2 (M 25 2)) 11 3 (M 25 3)) 11 4 (M 25 4)) 26) ((q_set (q_set (q_set (q_set (q_set M 11 0 (M 25 0)) 11 1 (M 25 1)) 11 2 (M 25 2)) 11 3 (M 25 3)) 11 4 (M 25 4)) 12) 0 0 30)) 13 (va_cpy ((q_row (q_set (q_set (q_set (q_set (q_set M 11 0 (M 25 0)) 11 1 (M 25 1)) 11 2 (M 25 2)) 11 3 (M 25 3)) 11 4 (M 25 4)) 12 (va_cpy ((q_set (q_set (q_set (q_set (q_set M 11 0 (M 25 0)) 11 1 (M 25 1)) 11 2 (M 25 2)) 11 3 (M 25 3)) 11 4 (M 25 4)) 26) ((q_set (q_set (q_set (q_set (q_set M 11 0 (M 25 0)) 11 1 (M 25 1)) 11 2 (M 25 2)) 11 3 (M 25 3)) 11 4 (M 25 4)) 12) 0 0 30)) 27) ((q_row (q_set (q_set (q_set (q_set (q_set M 11 0 (M 25 0)) 11 1 (M 25 1)) 11 2 (M 25 2)) 11 3 (M 25 3)) 11 4 (M 25 4)) 12 (va_cpy ((q_set (q_set (q_set (q_set (q_set M 11 0 (M 25 0)) 11 1 (M 25 1)) 11 2 (M 25 2)) 11 3 (M 25 3)) 11 4 (M 25 4)) 26) ((q_set (q_set (q_set (q_set (q_set M 11 0 (M 25 0)) 11 1 (M 25 1)) 11 2 (M 25 2)) 11 3 (M 25 3)) 11 4 (M 25 4)) 12) 0 0 30)) 13) 0 0 30)) 14 (va_cpy ((q_row (q_row (q_set (q_set (q_set (q_set (q_set M 11 0 (M 25 0)) 11 1 (M 25 1)) 11 2 (M 25 2)) 11 3 (M 25 3)) 11 4 (M 25 4)) 12 (va_cpy ((q_set (q_set (q_set (q_set (q_set M 11 0 (M 25 0)) 11 1 (M 25 1)) 11 2 (M 25 2)) 11 3 (M 25 3)) 11 4 (M 25 4)) 26) ((q_set (q_set (q_set (q_set (q_set M 11 0 (M 25 0)) 11 1 (M 25 1)) 11 2 (M 25 2)) 11 3 (M 25 3)) 11 4 (M 25 4)) 12) 0 0 30)) 13 (va_cpy ((q_row (q_set (q_set (q_set (q_set (q_set M 11 0 (M 25 0)) 11 1 (M 25 1)) 11 2 (M 25 2)) 11 3 (M 25 3)) 11 4 (M 25 4)) 12 (va_cpy ((q_set (q_set (q_set (q_set (q_set M 11 0 (M 25 0)) 11 1 (M 25 1)) 11 2 (M 25 2)) 11 3 (M 25 3)) 11 4 (M 25 4)) 26) ((q_set (q_set (q_set (q_set (q_set M 11 0 (M 25 0)) 11 1 (M 25 1)) 11 2 (M 25 2)) 11 3 (M 25 3)) 11 4 (M 25 4)) 12) 0 0 30)) 27) ((q_row (q_set (q_set (q_set (q_set (q_set M 11 0 (M 25 0)) 11 1 (M 25 1)) 11 2 (M 25 2)) 11 3 (M 25 3)) 11 4 (M 25 4)) 12 (va_cpy ((q_set (q_set (q_set (q_set (q_set M 11 0 (M 25 0)) 11 1 (M 25 1)) 11 2 (M 25 2)) 11 3 (M 25 3)) 11 4 (M 25 4)) 26) ((q_set (q_set (q_set (q_set (q_set M 11 0 (M 25 0)) 11 1 (M 25 1)) 11 2 (M 25 2)) 11 3 (M 25 3)) 11 4 (M 25 4)) 12) 0 0 30)) 13) 0 0 30)) 28) ((q_row (q_row (q_set (q_set (q_set (q_set (q_set M 11 0 (M 25 0)) 11 1 (M 25 1)) 11 2 (M 25 2)) 11 3 (M 25 3)) 11 4 (M 25 4)) 12 (va_cpy ((q_set (q_set (q_set (q_set (q_set M 11 0 (M 25 0)) 11 1 (M 25 1)) 11 2 (M 25 2)) 11 3 (M 25 3)) 11 4 (M 25 4)) 26) ((q_set (q_set (q_set (q_set (q_set M 11 0 (M 25 0)) 11 1 (M 25 1)) 11 2 (M 25 2)) 11 3 (M 25 3)) 11 4 (M 25 4)) 12) 0 0 30)) 13 (va_cpy ((q_row (q_set (q_set (q_set (q_set (q_set M 11 0 (M 25 0)) 11 1 (M 25 1)) 11 2 (M 25 2)) 11 3 (M 25 3)) 11 4 (M 25 4)) 12 (va_cpy ((q_set (q_set (q_set (q_set (q_set M 11 0 (M 25 0)) 11 1 (M 25 1)) 11 2 (M 25 2)) 11 3 (M 25 3)) 11 4 (M 25 4)) 26) ((q_set (q_set (q_set (q_set (q_set M 11 0 (M 25 0)) 11 1 (M 25 1)) 11 2 (M 25 2)) 11 3 (M 25 3)) 11 4 (M 25 4)) 12) 0 0 30)) 27) ((q_row (q_set (q_set (q_set (q_set (q_set M 11 0 (M 25 0)) 11 1 (M 25 1)) 11 2 (M 25 2)) 11 3 (M 25 3)) 11 4 (M 25 4)) 12 (va_cpy ((q_set (q_set (q_set (q_set (q_set M 11 0 (M 25 0)) 11 1 (M 25 1)) 11 2 (M 25 2)) 11 3 (M 25 3)) 11 4 (M 25 4)) 26) ((q_set (q_set (q_set (q_set (q_set M 11 0 (M 25 0)) 11 1 (M 25 1)) 11 2 (M 25 2)) 11 3 (M 25 3)) 11 4 (M 25 4)) 12) 0 0 30)) 13) 0 0 30)) 14) 0 0 30)) 15) 0 0 3)) 30) ((q_row (q_row (q_row (q_row (q_set (q_set (q_set (q_set (q_set M 11 0 (M 25 0)) 11 1 (M 25 1)) 11 2 (M 25 2)) 11 3 (M 25 3)) 11 4 (M 25 4)) 12 (va_cpy ((q_set (q_set (q_set (q_set (q_set M 11 0 (M 25 0)) 11 1 (M 25 1)) 11 2 (M 25 2)) 11 3 (M 25 3)) 11 4 (M 25 4)) 26) ((q_set (q_set (q_set (q_set (q_set M 11 0 (M 25 0)) 11 1 (M 25 1)) 11 2 (M 25 2)) 11 3 (M 25 3)) 11 4 (M 25 4)) 12) 0 0 30)) 13 (va_cpy ((q_row (q_set (q_set (q_set (q_set (q_set M 11 0 (M 25 0)) 11 1 (M 25 1)) 11 2 (M 25 2)) 11 3 (M 25 3)) 11 4 (M 25 4)) 12 (va_cpy ((q_set (q_set (q_set (q_set (q_set M 11 0 (M 25 0)) 11 1 (M 25 1)) 11 2 (M 25 2)) 11 3 (M 25 3)) 11 4 (M 25 4)) 26) ((q_set (q_set (q_set (q_set (q_set M 11 0 (M 25 0)) 11 1 (M 25 1)) 11 2 (M 25 2)) 11 3 (M 25 3)) 11 4 (M 25 4)) 12) 0 0 30)) 27) ((q_row (q_set (q_set (q_set (q_set (q_set M 11 0 (M 25 0)) 11 1 (M 25 1)) 11 2 (M 25 2)) 11 3 (M 25 3)) 11 4 (M 25 4)) 12 (va_cpy ((q_set (q_set (q_set (q_set (q_set M 11 0 (M 25 0)) 11 1 (M 25 1)) 11 2 (M 25 2)) 11 3 (M 25 3)) 11 4 (M 25 4)) 26) ((q_set (q_set (q_set (q_set (q_set M 11 0 (M 25 0)) 11 1 (M 25 1)) 11 2 (M 25 2)) 11 3 (M 25 3)) 11 4 (M 25 4)) 12) 0 0 30)) 13) 0 0 30)) 14 (va_cpy ((q_row (q_row (q_set (q_set (q_set (q_set (q_set M 11 0 (M 25 0)) 11 1 (M 25 1)) 11 2 (M 25 2)) 11 3 (M 25 3)) 11 4 (M 25 4)) 12 (va_cpy ((q_set (q_set (q_set (q_set (q_set M 11 0 (M 25 0)) 11 1 (M 25 1)) 11 2 (M 25 2)) 11 3 (M 25 3)) 11 4 (M 25 4)) 26) ((q_set (q_set (q_set (q_set (q_set M 11 0 (M 25 0)) 11 1 (M 25 1)) 11 2 (M 25 2)) 11 3 (M 25 3)) 11 4 (M 25 4)) 12) 0 0 30)) 13 (va_cpy ((q_row (q_set (q_set (q_set (q_set (q_set M 11 0 (M 25 0)) 11 1 (M 25 1)) 11 2 (M 25 2)) 11 3 (M 25 3)) 11 4 (M 25 4)) 12 (va_cpy ((q_set (q_set (q_set (q_set (q_set M 11 0 (M 25 0)) 11 1 (M 25 1)) 11 2 (M 25 2)) 11 3 (M 25 3)) 11 4 (M 25 4)) 26) ((q_set (q_set (q_set (q_set (q_set M 11 0 (M 25 0)) 11 1 (M 25 1)) 11 2 (M 25 2)) 11 3 (M 25 3)) 11 4 (M 25 4)) 12) 0 0 30)) 27) ((q_row (q_set (q_set (q_set (q_set (q_set M 11 0 (M 25 0)) 11 1 (M 25 1)) 11 2 (M 25 2)) 11 3 (M 25 3)) 11 4 (M 25 4)) 12 (va_cpy ((q_set (q_set (q_set (q_set (q_set M 11 0 (M 25 0)) 11 1 (M 25 1)) 11 2 (M 25 2)) 11 3 (M 25 3)) 11 4 (M 25 4)) 26) ((q_set (q_set (q_set (q_set (q_set M 11 0 (M 25 0)) 11 1 (M 25 1)) 11 2 (M 25 2)) 11 3 (M 25 3)) 11 4 (M 25 4)) 12) 0 0 30)) 13) 0 0 30)) 28) ((q_row (q_row (q_set (q_set (q_set (q_set (q_set M 11 0 (M 25 0)) 11 1 (M 25 1)) 11 2 (M 25 2)) 11 3 (M 25 3)) 11 4 (M 25 4)) 12 (va_cpy ((q_set (q_set (q_set (q_set (q_set M 11 0 (M 25 0)) 11 1 (M 25 1)) 11 2 (M 25 2)) 11 3 (M 25 3)) 11 4 (M 25 4)) 26) ((q_set (q_set (q_set (q_set (q_set M 11 0 (M 25 0)) 11 1 (M 25 1)) 11 2 (M 25 2)) 11 3 (M 25 3)) 11 4 (M 25 4)) 12) 0 0 30)) 13 (va_cpy ((q_row (q_set (q_set (q_set (q_set (q_set M 11 0 (M 25 0)) 11 1 (M 25 1)) 11 2 (M 25 2)) 11 3 (M 25 3)) 11 4 (M 25 4)) 12 (va_cpy ((q_set (q_set (q_set (q_set (q_set M 11 0 (M 25 0)) 11 1 (M 25 1)) 11 2 (M 25 2)) 11 3 (M 25 3)) 11 4 (M 25 4)) 26) ((q_set (q_set (q_set (q_set (q_set M 11 0 (M 25 0)) 11 1 (M 25 1)) 11 2 (M 25 2)) 11 3 (M 25 3)) 11 4 (M 25 4)) 12) 0 0 30)) 27) ((q_row (q_set (q_set (q_set (q_set (q_set M 11 0 (M 25 0)) 11 1 (M 25 1)) 11 2 (M 25 2)) 11 3 (M 25 3)) 11 4 (M 25 4)) 12 (va_cpy ((q_set (q_set (q_set (q_set (q_set M 11 0 (M 25 0)) 11 1 (M 25 1)) 11 2 (M 25 2)) 11 3 (M 25 3)) 11 4 (M 25 4)) 26) ((q_set (q_set (q_set (q_set (q_set M 11 0 (M 25 0)) 11 1 (M 25 1)) 11 2 (M 25 2)) 11 3 (M 25 3)) 11 4 (M 25 4)) 12) 0 0 30)) 13) 0 0 30)) 14) 0 0 30)) 15 (va_cpy ((q_row (q_row (q_row (q_set (q_set (q_set (q_set (q_set M 11 0 (M 25 0)) 11 1 (M 25 1)) 11 2 (M 25 2)) 11 3 (M 25 3)) 11 4 (M 25 4)) 12 (va_cpy ((q_set (q_set (q_set (q_set (q_set M 11 0 (M 25 0)) 11 1 (M 25 1)) 11 2 (M 25 2)) 11 3 (M 25 3)) 11 4 (M 25 4)) 26) ((q_set (q_set (q_set (q_set (q_set M 11 0 (M 25 0)) 11 1 (M 25 1)) 11 2 (M 25 2)) 11 3 (M 25 3)) 11 4 (M 25 4)) 12) 0 0 30)) 13 (va_cpy ((q_row (q_set (q_set (q_set (q_set (q_set M 11 0 (M 25 0)) 11 1 (M 25 1)) 11 2 (M 25 2)) 11 3 (M 25 3)) 11 4 (M 25 4)) 12 (va_cpy ((q_set (q_set (q_set (q_set (q_set M 11 0 (M 25 0)) 11 1 (M 25 1)) 11 2 (M 25 2)) 11 3 (M 25 3)) 11 4 (M 25 4)) 26) ((q_set (q_set (q_set (q_set (q_set M 11 0 (M 25 0)) 11 1 (M 25 1)) 11 2 (M 25 2)) 11 3 (M 25 3)) 11 4 (M 25 4)) 12) 0 0 30)) 27) ((q_row (q_set (q_set (q_set (q_set (q_set M 11 0 (M 25 0)) 11 1 (M 25 1)) 11 2 (M 25 2)) 11 3 (M 25 3)) 11 4 (M 25 4)) 12 (va_cpy ((q_set (q_set (q_set (q_set (q_set M 11 0 (M 25 0)) 11 1 (M 25 1)) 11 2 (M 25 2)) 11 3 (M 25 3)) 11 4 (M 25 4)) 26) ((q_set (q_set (q_set (q_set (q_set M 11 0 (M 25 0)) 11 1 (M 25 1)) 11 2 (M 25 2)) 11 3 (M 25 3)) 11 4 (M 25 4)) 12) 0 0 30)) 13) 0 0 30)) 14 (va_cpy ((q_row (q_row (q_set (q_set (q_set (q_set (q_set M 11 0 (M 25 0)) 11 1 (M 25 1)) 11 2 (M 25 2)) 11 3 (M 25 3)) 11 4 (M 25 4)) 12 (va_cpy ((q_set (q_set (q_set (q_set (q_set M 11 0 (M 25 0)) 11 1 (M 25 1)) 11 2 (M 25 2)) 11 3 (M 25 3)) 11 4 (M 25 4)) 26) ((q_set (q_set (q_set (q_set (q_set M 11 0 (M 25 0)) 11 1 (M 25 1)) 11 2 (M 25 2)) 11 3 (M 25 3)) 11 4 (M 25 4)) 12) 0 0 30)) 13 (va_cpy ((q_row (q_set (q_set (q_set (q_set (q_set M 11 0 (M 25 0)) 11 1 (M 25 1)) 11 2 (M 25 2)) 11 3 (M 25 3)) 11 4 (M 25 4)) 12 (va_cpy ((q_set (q_set (q_set (q_set (q_set M 11 0 (M 25 0)) 11 1 (M 25 1)) 11 2 (M 25 2)) 11 3 (M 25 3)) 11 4 (M 25 4)) 26) ((q_set (q_set (q_set (q_set (q_set M 11 0 (M 25 0)) 11 1 (M 25 1)) 11 2 (M 25 2)) 11 3 (M 25 3)) 11 4 (M 25 4)) 12) 0 0 30)) 27) ((q_row (q_set (q_set (q_set (q_set (q_set M 11 0 (M 25 0)) 11 1 (M 25 1)) 11 2 (M 25 2)) 11 3 (M 25 3)) 11 4 (M 25 4)) 12 (va_cpy ((q_set (q_set (q_set (q_set (q_set M 11 0 (M 25 0)) 11 1 (M 25 1)) 11 2 (M 25 2)) 11 3 (M 25 3)) 11 4 (M 25 4)) 26) ((q_set (q_set (q_set (q_set (q_set M 11 0 (M 25 0)) 11 1 (M 25 1)) 11 2 (M 25 2)) 11 3 (M 25 3)) 11 4 (M 25 4)) 12) 0 0 30)) 13) 0 0 30)) 28) ((q_row (q_row (q_set (q_set (q_set (q_set (q_set M 11 0 (M 25 0)) 11 1 (M 25 1)) 11 2 (M 25 2)) 11 3 (M 25 3)) 11 4 (M 25 4)) 12 (va_cpy ((q_set (q_set (q_set (q_set (q_set M 11 0 (M 25 0)) 11 1 (M 25 1)) 11 2 (M 25 2)) 11 3 (M 25 3)) 11 4 (M 25 4)) 26) ((q_set (q_set (q_set (q_set (q_set M 11 0 (M 25 0)) 11 1 (M 25 1)) 11 2 (M 25 2)) 11 3 (M 25 3)) 11 4 (M 25 4)) 12) 0 0 30)) 13 (va_cpy ((q_row (q_set (q_set (q_set (q_set (q_set M 11 0 (M 25 0)) 11 1 (M 25 1)) 11 2 (M 25 2)) 11 3 (M 25 3)) 11 4 (M 25 4)) 12 (va_cpy ((q_set (q_set (q_set (q_set (q_set M 11 0 (M 25 0)) 11 1 (M 25 1)) 11 2 (M 25 2)) 11 3 (M 25 3)) 11 4 (M 25 4)) 26) ((q_set (q_set (q_set (q_set (q_set M 11 0 (M 25 0)) 11 1 (M 25 1)) 11 2 (M 25 2)) 11 3 (M 25 3)) 11 4 (M 25 4)) 12) 0 0 30)) 27) ((q_row (q_set (q_set (q_set (q_set (q_set M 11 0 (M 25 0)) 11 1 (M 25 1)) 11 2 (M 25 2)) 11 3 (M 25 3)) 11 4 (M 25 4)) 12 (va_cpy ((q_set (q_set (q_set (q_set (q_set M 11 0 (M 25 0)) 11 1 (M 25 1)) 11 2 (M 25 2)) 11 3 (M 25 3)) 11 4 (M 25 4)) 26) ((q_set (q_set (q_set (q_set (q_set M 11 0 (M 25 0)) 11 1 (M 25 1)) 11 2 (M 25 2)) 11 3 (M 25 3)) 11 4 (M 25 4)) 12) 0 0 30)) 13) 0 0 30)) 14) 0 0 30)) 29) ((q_row (q_row (q_row (q_set (q_set (q_set (q_set (q_set M 11 0 (M 25 0)) 11 1 (M 25 1)) 11 2 (M 25 2)) 11 3 (M 25 3)) 11 4 (M 25 4)) 12 (va_cpy ((q_set (q_set (q_set (q_set (q_set M 11 0 (M 25 0)) 11 1 (M 25 1)) 11 2 (M 25 2)) 11 3 (M 25 3)) 11 4 (M 25 4)) 26) ((q_set (q_set (q_set (q_set (q_set M 11 0 (M 25 0)) 11 1 (M 25 1)) 11 2 (M 25 2)) 11 3 (M 25 3)) 11 4 (M 25 4)) 12) 0 0 30)) 13 (va_cpy ((q_row (q_set (q_set (q_set (q_set (q_set M 11 0 (M 25 0)) 11 1 (M 25 1)) 11 2 (M 25 2)) 11 3 (M 25 3)) 11 4 (M 25 4)) 12 (va_cpy ((q_set (q_set (q_set (q_set (q_set M 11 0 (M 25 0)) 11 1 (M 25 1)) 11 2 (M 25 2)) 11 3 (M 25 3)) 11 4 (M 25 4)) 26) ((q_set (q_set (q_set (q_set (q_set M 11 0 (M 25 0)) 11 1 (M 25 1)) 11 2 (M 25 2)) 11 3 (M 25 3)) 11 4 (M 25 4)) 12) 0 0 30)) 27) ((q_row (q_set (q_set (q_set (q_set (q_set M 11 0 (M 25 0)) 11 1 (M 25 1)) 11 2 (M 25 2)) 11 3 (M 25 3)) 11 4 (M 25 4)) 12 (va_cpy ((q_set (q_set (q_set (q_set (q_set M 11 0 (M 25 0)) 11 1 (M 25 1)) 11 2 (M 25 2)) 11 3 (M 25 3)) 11 4 (M 25 4)) 26) ((q_set (q_set (q_set (q_set (q_set M 11 0 (M 25 0)) 11 1 (M 25 1)) 11 2 (M 25 2)) 11 3 (M 25 3)) 11 4 (M 25 4)) 12) 0 0 30)) 13) 0 0 30)) 14 (va_cpy ((q_row (q_row (q_set (q_set (q_set (q_set (q_set M 11 0 (M 25 0)) 11 1 (M 25 1)) 11 2 (M 25 2)) 11 3 (M 25 3)) 11 4 (M 25 4)) 12 (va_cpy ((q_set (q_set (q_set (q_set (q_set M 11 0 (M 25 0)) 11 1 (M 25 1)) 11 2 (M 25 2)) 11 3 (M 25 3)) 11 4 (M 25 4)) 26) ((q_set (q_set (q_set (q_set (q_set M 11 0 (M 25 0)) 11 1 (M 25 1)) 11 2 (M 25 2)) 11 3 (M 25 3)) 11 4 (M 25 4)) 12) 0 0 30)) 13 (va_cpy ((q_row (q_set (q_set (q_set (q_set (q_set M 11 0 (M 25 0)) 11 1 (M 25 1)) 11 2 (M 25 2)) 11 3 (M 25 3)) 11 4 (M 25 4)) 12 (va_cpy ((q_set (q_set (q_set (q_set (q_set M 11 0 (M 25 0)) 11 1 (M 25 1)) 11 2 (M 25 2)) 11 3 (M 25 3)) 11 4 (M 25 4)) 26) ((q_set (q_set (q_set (q_set (q_set M 11 0 (M 25 0)) 11 1 (M 25 1)) 11 2 (M 25 2)) 11 3 (M 25 3)) 11 4 (M 25 4)) 12) 0 0 30)) 27) ((q_row (q_set (q_set (q_set (q_set (q_set M 11 0 (M 25 0)) 11 1 (M 25 1)) 11 2 (M 25 2)) 11 3 (M 25 3)) 11 4 (M 25 4)) 12 (va_cpy ((q_set (q_set (q_set (q_set (q_set M 11 0 (M 25 0)) 11 1 (M 25 1)) 11 2 (M 25 2)) 11 3 (M 25 3)) 11 4 (M 25 4)) 26) ((q_set (q_set (q_set (q_set (q_set M 11 0 (M 25 0)) 11 1 (M 25 1)) 11 2 (M 25 2)) 11 3 (M 25 3)) 11 4 (M 25 4)) 12) 0 0 30)) 13) 0 0 30)) 28) ((q_row (q_row (q_set (q_set (q_set (q_set (q_set M 11 0 (M 25 0)) 11 1 (M 25 1)) 11 2 (M 25 2)) 11 3 (M 25 3)) 11 4 (M 25 4)) 12 (va_cpy ((q_set (q_set (q_set (q_set (q_set M 11 0 (M 25 0)) 11 1 (M 25 1)) 11 2 (M 25 2)) 11 3 (M 25 3)) 11 4 (M 25 4)) 26) ((q_set (q_set (q_set (q_set (q_set M 11 0 (M 25 0)) 11 1 (M 25 1)) 11 2 (M 25 2)) 11 3 (M 25 3)) 11 4 (M 25 4)) 12) 0 0 30)) 13 (va_cpy ((q_row (q_set (q_set (q_set (q_set (q_set M 11 0 (M 25 0)) 11 1 (M 25 1)) 11 2 (M 25 2)) 11 3 (M 25 3)) 11 4 (M 25 4)) 12 (va_cpy ((q_set (q_set (q_set (q_set (q_set M 11 0 (M 25 0)) 11 1 (M 25 1)) 11 2 (M 25 2)) 11 3 (M 25 3)) 11 4 (M 25 4)) 26) ((q_set (q_set (q_set (q_set (q_set M 11 0 (M 25 0)) 11 1 (M 25 1)) 11 2 (M 25 2)) 11 3 (M 25 3)) 11 4 (M 25 4)) 12) 0 0 30)) 27) ((q_row (q_set (q_set (q_set (q_set (q_set M 11 0 (M 25 0)) 11 1 (M 25 1)) 11 2 (M 25 2)) 11 3 (M 25 3)) 11 4 (M 25 4)) 12 (va_cpy ((q_set (q_set (q_set (q_set (q_set M 11 0 (M 25 0)) 11 1 (M 25 1)) 11 2 (M 25 2)) 11 3 (M 25 3)) 11 4 (M 25 4)) 26) ((q_set (q_set (q_set (q_set (q_set M 11 0 (M 25 0)) 11 1 (M 25 1)) 11 2 (M 25 2)) 11 3 (M 25 3)) 11 4 (M 25 4)) 12) 0 0 30)) 13) 0 0 30)) 14) 0 0 30)) 15) 0 0 3)) 16) 0 0 3))) : q_Cv X d 15 [.ref 11, .ref 25] M K := by
  show q_Ex X d 15 0 [some (.ref 11), some (.ref 25)] [] M (q_rn K)
  refine q_aload_n (pc := 0) k15_0 rfl ?_
  refine q_aload_n (pc := 1) k15_1 rfl ?_
  refine q_getIv (pc := 2) (v := M 25 0) k15_2 fg15_30 rfl rfl rfl ?_
  refine q_putI (pc := 5) k15_5 fp15_30 rfl rfl ?_
  refine q_aload_n (pc := 8) k15_8 rfl ?_
  refine q_aload_n (pc := 9) k15_9 rfl ?_
  refine q_getIv (pc := 10) (v := M 25 1) k15_10 fg15_34 rfl rfl rfl ?_
  refine q_putI (pc := 13) k15_13 fp15_34 rfl rfl ?_
  refine q_aload_n (pc := 16) k15_16 rfl ?_
  refine q_aload_n (pc := 17) k15_17 rfl ?_
  refine q_getIv (pc := 18) (v := M 25 2) k15_18 fg15_37 rfl rfl rfl ?_
  refine q_putI (pc := 21) k15_21 fp15_37 rfl rfl ?_
  refine q_aload_n (pc := 24) k15_24 rfl ?_
  refine q_aload_n (pc := 25) k15_25 rfl ?_
  refine q_getIv (pc := 26) (v := M 25 3) k15_26 fg15_40 rfl rfl rfl ?_
  refine q_putI (pc := 29) k15_29 fp15_40 rfl rfl ?_
  refine q_aload_n (pc := 32) k15_32 rfl ?_
  refine q_aload_n (pc := 33) k15_33 rfl ?_
  refine q_getIv (pc := 34) (v := M 25 4) k15_34 fg15_43 rfl rfl rfl ?_
  refine q_putI (pc := 37) k15_37 fp15_43 rfl rfl ?_
  refine q_aload_n (pc := 40) k15_40 rfl ?_
  refine q_getR (pc := 41) k15_41 fg15_9 rfl rfl ?_
  refine q_iconst (pc := 44) (v := 0) k15_44 (by decide) ?_
  refine q_aload_n (pc := 45) k15_45 rfl ?_
  refine q_getR (pc := 46) k15_46 fg15_9 rfl rfl ?_
  refine q_iconst (pc := 49) (v := 0) k15_49 (by decide) ?_
  refine q_bipush (pc := 50) (v := 30) k15_50 (by decide) ?_
  refine q_copy (pc := 52) k15_52 lc15_46 oc_copy rfl rfl rfl rfl (by decide) (by decide) (by decide) (Nat.le_of_ble_eq_true rfl) ?_
  refine q_aload_n (pc := 55) k15_55 rfl ?_
  refine q_getR (pc := 56) k15_56 fg15_15 rfl rfl ?_
  refine q_iconst (pc := 59) (v := 0) k15_59 (by decide) ?_
  refine q_aload_n (pc := 60) k15_60 rfl ?_
  refine q_getR (pc := 61) k15_61 fg15_15 rfl rfl ?_
  refine q_iconst (pc := 64) (v := 0) k15_64 (by decide) ?_
  refine q_bipush (pc := 65) (v := 30) k15_65 (by decide) ?_
  refine q_copy (pc := 67) k15_67 lc15_46 oc_copy rfl rfl rfl rfl (by decide) (by decide) (by decide) (Nat.le_of_ble_eq_true rfl) ?_
  refine q_aload_n (pc := 70) k15_70 rfl ?_
  refine q_getR (pc := 71) k15_71 fg15_18 rfl rfl ?_
  refine q_iconst (pc := 74) (v := 0) k15_74 (by decide) ?_
  refine q_aload_n (pc := 75) k15_75 rfl ?_
  refine q_getR (pc := 76) k15_76 fg15_18 rfl rfl ?_
  refine q_iconst (pc := 79) (v := 0) k15_79 (by decide) ?_
  refine q_bipush (pc := 80) (v := 30) k15_80 (by decide) ?_
  refine q_copy (pc := 82) k15_82 lc15_46 oc_copy rfl rfl rfl rfl (by decide) (by decide) (by decide) (Nat.le_of_ble_eq_true rfl) ?_
  refine q_aload_n (pc := 85) k15_85 rfl ?_
  refine q_getR (pc := 86) k15_86 fg15_21 rfl rfl ?_
  refine q_iconst (pc := 89) (v := 0) k15_89 (by decide) ?_
  refine q_aload_n (pc := 90) k15_90 rfl ?_
  refine q_getR (pc := 91) k15_91 fg15_21 rfl rfl ?_
  refine q_iconst (pc := 94) (v := 0) k15_94 (by decide) ?_
  refine q_iconst (pc := 95) (v := 3) k15_95 (by decide) ?_
  refine q_copy (pc := 96) k15_96 lc15_46 oc_copy rfl rfl rfl rfl (by decide) (by decide) (by decide) (Nat.le_of_ble_eq_true rfl) ?_
  refine q_aload_n (pc := 99) k15_99 rfl ?_
  refine q_getR (pc := 100) k15_100 fg15_24 rfl rfl ?_
  refine q_iconst (pc := 103) (v := 0) k15_103 (by decide) ?_
  refine q_aload_n (pc := 104) k15_104 rfl ?_
  refine q_getR (pc := 105) k15_105 fg15_24 rfl rfl ?_
  refine q_iconst (pc := 108) (v := 0) k15_108 (by decide) ?_
  refine q_iconst (pc := 109) (v := 3) k15_109 (by decide) ?_
  refine q_copy (pc := 110) k15_110 lc15_46 oc_copy rfl rfl rfl rfl (by decide) (by decide) (by decide) (Nat.le_of_ble_eq_true rfl) ?_
  exact q_return (pc := 113) k15_113 rfl ⟨rfl, h⟩
set_option maxRecDepth 20000 in
theorem vc16 {X : Nat × (Nat → Int32)} {d : Nat} (hd : 0 < d) {M : q_M} {a2 : Int32} {K : Int32 → q_M → Prop} (h : q_Cv X (d - 1) 17 [.ref 3] M (fun M1 => q_Ex X d 16 14 [some (.ref 3), some (.ref 1), none, some (.int (if 48 < a2 then 48 else a2)), some (.int 0), none] [] M1 (q_ri K))) : q_Ci X d 16 [.ref 3, .ref 1, .int a2] M K := by
  show q_Ex X d 16 0 [some (.ref 3), some (.ref 1), some (.int a2), none, none, none] [] M (q_ri K)
  refine q_aload_n (pc := 0) k16_0 rfl ?_
  refine q_invV (pc := 1) (As := []) (st := []) k16_1 lm16_52 ov17 rfl rfl rfl (q_cat rfl) (Nat.le_of_ble_eq_true rfl) hd h ?_
  rintro v M1 ⟨rfl, h⟩
  show q_Ex X d 16 (1 + 3) [some (.ref 3), some (.ref 1), some (.int a2), none, none, none] [] M1 _
  refine q_iload_n (pc := 4) k16_4 rfl ?_
  refine q_aload_n (pc := 5) k16_5 rfl ?_
  refine q_alen (pc := 6) (v := 48) k16_6 rfl rfl ?_
  refine q_mmin (pc := 7) k16_7 lx16_55 oc_min (Nat.le_of_ble_eq_true rfl) ?_
  refine q_istore_n (pc := 10) [some (.ref 3), some (.ref 1), some (.int a2), some (.int (if 48 < a2 then 48 else a2)), none, none] k16_10 rfl (by decide) rfl ?_
  refine q_iconst (pc := 11) (v := 0) k16_11 (by decide) ?_
  refine q_istore (pc := 12) [some (.ref 3), some (.ref 1), some (.int a2), some (.int (if 48 < a2 then 48 else a2)), some (.int 0), none] k16_12 rfl (by decide) rfl ?_
  exact q_forget [some (.ref 3), some (.ref 1), none, some (.int (if 48 < a2 then 48 else a2)), some (.int 0), none] (q_subOk (And.intro rfl (And.intro rfl (And.intro rfl (And.intro rfl (trivial)))))) h
set_option maxRecDepth 20000 in
theorem vc16_p14 {X : Nat × (Nat → Int32)} {d : Nat} (hd : 0 < d) {M : q_M} {a3 a4 : Int32} {K : Int32 → q_M → Prop} (h : ((a3 ≤ a4) → ((((M 3 0) < 1) → (K ((-1000) - a3) M)) ∧ ((¬ (M 3 0) < 1) → ((((M 3 11) = (M 3 1)) → (q_Ci X (d - 1) 22 [.ref 3] (q_set M 3 0 ((M 3 0) + 1)) (fun r2 M1 => ((r2 = 0) → (K (-2000) M1)) ∧ ((¬ r2 = 0) → (K 0 M1))))) ∧ ((¬ (M 3 11) = (M 3 1)) → (K ((-1000) - a3) M)))))) ∧ ((¬ a3 ≤ a4) → (vp_in a4 48 ∧ (((¬ (M 1 (Int32.toNatClampNeg a4)) = 47) → (vp_in a4 48 ∧ (q_Ci X (d - 1) 19 [.ref 3, .int (M 1 (Int32.toNatClampNeg a4))] M (fun r4 M3 => ((¬ r4 = 0) → (q_Ex X d 16 14 [some (.ref 3), some (.ref 1), none, some (.int a3), some (.int (a4 + 1)), none] [] M3 (q_ri K))) ∧ ((r4 = 0) → (K ((-1000) - a4) M3)))))) ∧ (((M 1 (Int32.toNatClampNeg a4)) = 47) → (q_Ci X (d - 1) 18 [.ref 3] M (fun r6 M5 => ((¬ r6 = 0) → (q_Ex X d 16 14 [some (.ref 3), some (.ref 1), none, some (.int a3), some (.int (a4 + 1)), none] [] M5 (q_ri K))) ∧ ((r6 = 0) → (K ((-1000) - a4) M5))))))))) : q_Ex X d 16 14 [some (.ref 3), some (.ref 1), none, some (.int a3), some (.int a4), none] [] M (q_ri K) := by
  refine q_iload (pc := 14) k16_14 rfl ?_
  refine q_iload_n (pc := 16) k16_16 rfl ?_
  refine q_icmp_ge (pc := 17) 64 k16_17 (by decide) (fun g => ?_) (fun g => ?_)
  · replace h := h.1 g
    refine q_aload_n (pc := 64) k16_64 rfl ?_
    refine q_getIv (pc := 65) (v := M 3 0) k16_65 fg16_30 rfl rfl rfl ?_
    refine q_iconst (pc := 68) (v := 1) k16_68 (by decide) ?_
    refine q_icmp_lt (pc := 69) 83 k16_69 (by decide) (fun g => ?_) (fun g => ?_)
    · replace h := h.1 g
      refine q_sipush (pc := 83) (v := (-1000)) k16_83 (by decide) ?_
      refine q_iload_n (pc := 86) k16_86 rfl ?_
      refine q_isub (pc := 87) k16_87 ?_
      exact q_ireturn (pc := 88) k16_88 rfl ⟨_, rfl, h⟩
    · replace h := h.2 g
      refine q_aload_n (pc := 72) k16_72 rfl ?_
      refine q_getIv (pc := 73) (v := M 3 11) k16_73 fg16_69 rfl rfl rfl ?_
      refine q_aload_n (pc := 76) k16_76 rfl ?_
      refine q_getIv (pc := 77) (v := M 3 1) k16_77 fg16_34 rfl rfl rfl ?_
      refine q_icmp_eq (pc := 80) 89 k16_80 (by decide) (fun g => ?_) (fun g => ?_)
      · replace h := h.1 g
        refine q_aload_n (pc := 89) k16_89 rfl ?_
        refine q_dup (pc := 90) k16_90 rfl ?_
        refine q_getIv (pc := 91) (v := M 3 0) k16_91 fg16_30 rfl rfl rfl ?_
        refine q_iconst (pc := 94) (v := 1) k16_94 (by decide) ?_
        refine q_iadd (pc := 95) k16_95 ?_
        refine q_putI (pc := 96) k16_96 fp16_30 rfl rfl ?_
        refine q_aload_n (pc := 99) k16_99 rfl ?_
        refine q_invV (pc := 100) (As := []) (st := []) k16_100 lm16_72 ov22 rfl rfl rfl (q_cat rfl) (Nat.le_of_ble_eq_true rfl) hd h ?_
        rintro v M1 ⟨r2, rfl, h⟩
        show q_Ex X d 16 (100 + 3) [some (.ref 3), some (.ref 1), none, some (.int a3), some (.int a4), none] [.int r2] M1 _
        refine q_if_eq (pc := 103) 110 k16_103 (by decide) (fun g => ?_) (fun g => ?_)
        · replace h := h.1 g
          refine q_sipush (pc := 110) (v := (-2000)) k16_110 (by decide) ?_
          exact q_ireturn (pc := 113) k16_113 rfl ⟨_, rfl, h⟩
        · replace h := h.2 g
          refine q_iconst (pc := 106) (v := 0) k16_106 (by decide) ?_
          refine q_goto (pc := 107) 113 k16_107 (by decide) ?_
          exact q_ireturn (pc := 113) k16_113 rfl ⟨_, rfl, h⟩
      · replace h := h.2 g
        refine q_sipush (pc := 83) (v := (-1000)) k16_83 (by decide) ?_
        refine q_iload_n (pc := 86) k16_86 rfl ?_
        refine q_isub (pc := 87) k16_87 ?_
        exact q_ireturn (pc := 88) k16_88 rfl ⟨_, rfl, h⟩
  · replace h := h.2 g
    refine q_aload_n (pc := 20) k16_20 rfl ?_
    refine q_iload (pc := 21) k16_21 rfl ?_
    refine q_ialdv (pc := 23) (v := M 1 (Int32.toNatClampNeg a4)) k16_23 rfl h.1 rfl ?_
    replace h := h.2
    refine q_bipush (pc := 24) (v := 47) k16_24 (by decide) ?_
    refine q_icmp_ne (pc := 26) 36 k16_26 (by decide) (fun g => ?_) (fun g => ?_)
    · replace h := h.1 g
      refine q_aload_n (pc := 36) k16_36 rfl ?_
      refine q_aload_n (pc := 37) k16_37 rfl ?_
      refine q_iload (pc := 38) k16_38 rfl ?_
      refine q_ialdv (pc := 40) (v := M 1 (Int32.toNatClampNeg a4)) k16_40 rfl h.1 rfl ?_
      replace h := h.2
      refine q_invV (pc := 41) (As := [.int (M 1 (Int32.toNatClampNeg a4))]) (st := []) k16_41 lm16_65 ov19 rfl rfl rfl (q_cat rfl) (Nat.le_of_ble_eq_true rfl) hd h ?_
      rintro v M3 ⟨r4, rfl, h⟩
      show q_Ex X d 16 (41 + 3) [some (.ref 3), some (.ref 1), none, some (.int a3), some (.int a4), none] [.int r4] M3 _
      refine q_istore (pc := 44) [some (.ref 3), some (.ref 1), none, some (.int a3), some (.int a4), some (.int r4)] k16_44 rfl (by decide) rfl ?_
      refine q_iload (pc := 46) k16_46 rfl ?_
      refine q_if_ne (pc := 48) 58 k16_48 (by decide) (fun g => ?_) (fun g => ?_)
      · replace h := h.1 g
        refine q_iinc (pc := 58) (v := a4 + 1) [some (.ref 3), some (.ref 1), none, some (.int a3), some (.int (a4 + 1)), some (.int r4)] k16_58 rfl rfl rfl (by decide) rfl ?_
        refine q_goto (pc := 61) 14 k16_61 (by decide) ?_
        exact q_forget [some (.ref 3), some (.ref 1), none, some (.int a3), some (.int (a4 + 1)), none] (q_subOk (And.intro rfl (And.intro rfl (And.intro rfl (And.intro rfl (trivial)))))) h
      · replace h := h.2 g
        refine q_sipush (pc := 51) (v := (-1000)) k16_51 (by decide) ?_
        refine q_iload (pc := 54) k16_54 rfl ?_
        refine q_isub (pc := 56) k16_56 ?_
        exact q_ireturn (pc := 57) k16_57 rfl ⟨_, rfl, h⟩
    · replace h := h.2 g
      refine q_aload_n (pc := 29) k16_29 rfl ?_
      refine q_invV (pc := 30) (As := []) (st := []) k16_30 lm16_61 ov18 rfl rfl rfl (q_cat rfl) (Nat.le_of_ble_eq_true rfl) hd h ?_
      rintro v M5 ⟨r6, rfl, h⟩
      show q_Ex X d 16 (30 + 3) [some (.ref 3), some (.ref 1), none, some (.int a3), some (.int a4), none] [.int r6] M5 _
      refine q_goto (pc := 33) 44 k16_33 (by decide) ?_
      refine q_istore (pc := 44) [some (.ref 3), some (.ref 1), none, some (.int a3), some (.int a4), some (.int r6)] k16_44 rfl (by decide) rfl ?_
      refine q_iload (pc := 46) k16_46 rfl ?_
      refine q_if_ne (pc := 48) 58 k16_48 (by decide) (fun g => ?_) (fun g => ?_)
      · replace h := h.1 g
        refine q_iinc (pc := 58) (v := a4 + 1) [some (.ref 3), some (.ref 1), none, some (.int a3), some (.int (a4 + 1)), some (.int r6)] k16_58 rfl rfl rfl (by decide) rfl ?_
        refine q_goto (pc := 61) 14 k16_61 (by decide) ?_
        exact q_forget [some (.ref 3), some (.ref 1), none, some (.int a3), some (.int (a4 + 1)), none] (q_subOk (And.intro rfl (And.intro rfl (And.intro rfl (And.intro rfl (trivial)))))) h
      · replace h := h.2 g
        refine q_sipush (pc := 51) (v := (-1000)) k16_51 (by decide) ?_
        refine q_iload (pc := 54) k16_54 rfl ?_
        refine q_isub (pc := 56) k16_56 ?_
        exact q_ireturn (pc := 57) k16_57 rfl ⟨_, rfl, h⟩
set_option maxRecDepth 20000 in
theorem vc17 {X : Nat × (Nat → Int32)} {d : Nat} (hd : 0 < d) {M : q_M} {K : q_M → Prop} (h : q_Cv X (d - 1) 158 [.ref 7, .int (-1)] (q_set (q_set (q_set (q_set (q_set (q_set M 3 0 0) 3 1 0) 3 2 0) 3 3 0) 3 4 0) 3 11 0) (fun M1 => q_Cv X (d - 1) 158 [.ref 8, .int (-1)] M1 (fun M2 => K M2))) : q_Cv X d 17 [.ref 3] M K := by
  show q_Ex X d 17 0 [some (.ref 3)] [] M (q_rn K)
  refine q_aload_n (pc := 0) k17_0 rfl ?_
  refine q_iconst (pc := 1) (v := 0) k17_1 (by decide) ?_
  refine q_putI (pc := 2) k17_2 fp17_30 rfl rfl ?_
  refine q_aload_n (pc := 5) k17_5 rfl ?_
  refine q_iconst (pc := 6) (v := 0) k17_6 (by decide) ?_
  refine q_putI (pc := 7) k17_7 fp17_34 rfl rfl ?_
  refine q_aload_n (pc := 10) k17_10 rfl ?_
  refine q_iconst (pc := 11) (v := 0) k17_11 (by decide) ?_
  refine q_putI (pc := 12) k17_12 fp17_37 rfl rfl ?_
  refine q_aload_n (pc := 15) k17_15 rfl ?_
  refine q_iconst (pc := 16) (v := 0) k17_16 (by decide) ?_
  refine q_putI (pc := 17) k17_17 fp17_40 rfl rfl ?_
  refine q_aload_n (pc := 20) k17_20 rfl ?_
  refine q_iconst (pc := 21) (v := 0) k17_21 (by decide) ?_
  refine q_putI (pc := 22) k17_22 fp17_43 rfl rfl ?_
  refine q_aload_n (pc := 25) k17_25 rfl ?_
  refine q_iconst (pc := 26) (v := 0) k17_26 (by decide) ?_
  refine q_putI (pc := 27) k17_27 fp17_69 rfl rfl ?_
  refine q_aload_n (pc := 30) k17_30 rfl ?_
  refine q_getR (pc := 31) k17_31 fg17_21 rfl rfl ?_
  refine q_iconst (pc := 34) (v := (-1)) k17_34 (by decide) ?_
  refine q_invS (pc := 35) (As := [.ref 7, .int (-1)]) (st := []) k17_35 lm17_75 os158 rfl rfl (q_cat rfl) (Nat.le_of_ble_eq_true rfl) hd h ?_
  rintro v M1 ⟨rfl, h⟩
  show q_Ex X d 17 (35 + 3) [some (.ref 3)] [] M1 _
  refine q_aload_n (pc := 38) k17_38 rfl ?_
  refine q_getR (pc := 39) k17_39 fg17_24 rfl rfl ?_
  refine q_iconst (pc := 42) (v := (-1)) k17_42 (by decide) ?_
  refine q_invS (pc := 43) (As := [.ref 8, .int (-1)]) (st := []) k17_43 lm17_75 os158 rfl rfl (q_cat rfl) (Nat.le_of_ble_eq_true rfl) hd h ?_
  rintro v M2 ⟨rfl, h⟩
  show q_Ex X d 17 (43 + 3) [some (.ref 3)] [] M2 _
  exact q_return (pc := 46) k17_46 rfl ⟨rfl, h⟩
set_option maxRecDepth 20000 in
theorem vc18 {X : Nat × (Nat → Int32)} {d : Nat} {M : q_M} {K : Int32 → q_M → Prop} (h : ((¬ (M 3 1) = 0) → (((¬ (M 3 11) = (M 3 1)) → (K 0 M)) ∧ (((M 3 11) = (M 3 1)) → (((((M 3 0) + 1) < 6) → (K 1 (q_set (q_set (q_set M 3 1 (M 3 11)) 3 0 ((M 3 0) + 1)) 3 11 0))) ∧ ((¬ ((M 3 0) + 1) < 6) → (K 0 M)))))) ∧ (((M 3 1) = 0) → ((((M 3 11) < 2) → (K 0 M)) ∧ ((¬ (M 3 11) < 2) → (((((M 3 0) + 1) < 6) → (K 1 (q_set (q_set (q_set M 3 1 (M 3 11)) 3 0 ((M 3 0) + 1)) 3 11 0))) ∧ ((¬ ((M 3 0) + 1) < 6) → (K 0 M))))))) : q_Ci X d 18 [.ref 3] M K := by
  show q_Ex X d 18 0 [some (.ref 3), none] [] M (q_ri K)
  refine q_aload_n (pc := 0) k18_0 rfl ?_
  refine q_getIv (pc := 1) (v := M 3 1) k18_1 fg18_34 rfl rfl rfl ?_
  refine q_if_ne (pc := 4) 23 k18_4 (by decide) (fun g => ?_) (fun g => ?_)
  · replace h := h.1 g
    refine q_aload_n (pc := 23) k18_23 rfl ?_
    refine q_getIv (pc := 24) (v := M 3 11) k18_24 fg18_69 rfl rfl rfl ?_
    refine q_aload_n (pc := 27) k18_27 rfl ?_
    refine q_getIv (pc := 28) (v := M 3 1) k18_28 fg18_34 rfl rfl rfl ?_
    refine q_icmp_ne (pc := 31) 38 k18_31 (by decide) (fun g => ?_) (fun g => ?_)
    · replace h := h.1 g
      refine q_iconst (pc := 38) (v := 0) k18_38 (by decide) ?_
      refine q_istore_n (pc := 39) [some (.ref 3), some (.int 0)] k18_39 rfl (by decide) rfl ?_
      refine q_iload_n (pc := 40) k18_40 rfl ?_
      refine q_if_eq (pc := 41) 55 k18_41 (by decide) (fun _ => ?_) (fun g => absurd g (by decide))
      refine q_iconst (pc := 55) (v := 0) k18_55 (by decide) ?_
      exact q_zreturn (pc := 56) k18_56 rfl (by decide) ⟨_, rfl, h⟩
    · replace h := h.2 g
      refine q_iconst (pc := 34) (v := 1) k18_34 (by decide) ?_
      refine q_goto (pc := 35) 39 k18_35 (by decide) ?_
      refine q_istore_n (pc := 39) [some (.ref 3), some (.int 1)] k18_39 rfl (by decide) rfl ?_
      refine q_iload_n (pc := 40) k18_40 rfl ?_
      refine q_if_eq (pc := 41) 55 k18_41 (by decide) (fun g => absurd g (by decide)) (fun _ => ?_)
      refine q_aload_n (pc := 44) k18_44 rfl ?_
      refine q_getIv (pc := 45) (v := M 3 0) k18_45 fg18_30 rfl rfl rfl ?_
      refine q_iconst (pc := 48) (v := 1) k18_48 (by decide) ?_
      refine q_iadd (pc := 49) k18_49 ?_
      refine q_bipush (pc := 50) (v := 6) k18_50 (by decide) ?_
      refine q_icmp_lt (pc := 52) 57 k18_52 (by decide) (fun g => ?_) (fun g => ?_)
      · replace h := h.1 g
        refine q_aload_n (pc := 57) k18_57 rfl ?_
        refine q_aload_n (pc := 58) k18_58 rfl ?_
        refine q_getIv (pc := 59) (v := M 3 11) k18_59 fg18_69 rfl rfl rfl ?_
        refine q_putI (pc := 62) k18_62 fp18_34 rfl rfl ?_
        refine q_aload_n (pc := 65) k18_65 rfl ?_
        refine q_dup (pc := 66) k18_66 rfl ?_
        refine q_getIv (pc := 67) (v := M 3 0) k18_67 fg18_30 rfl rfl rfl ?_
        refine q_iconst (pc := 70) (v := 1) k18_70 (by decide) ?_
        refine q_iadd (pc := 71) k18_71 ?_
        refine q_putI (pc := 72) k18_72 fp18_30 rfl rfl ?_
        refine q_aload_n (pc := 75) k18_75 rfl ?_
        refine q_iconst (pc := 76) (v := 0) k18_76 (by decide) ?_
        refine q_putI (pc := 77) k18_77 fp18_69 rfl rfl ?_
        refine q_iconst (pc := 80) (v := 1) k18_80 (by decide) ?_
        exact q_zreturn (pc := 81) k18_81 rfl (by decide) ⟨_, rfl, h⟩
      · replace h := h.2 g
        refine q_iconst (pc := 55) (v := 0) k18_55 (by decide) ?_
        exact q_zreturn (pc := 56) k18_56 rfl (by decide) ⟨_, rfl, h⟩
  · replace h := h.2 g
    refine q_aload_n (pc := 7) k18_7 rfl ?_
    refine q_getIv (pc := 8) (v := M 3 11) k18_8 fg18_69 rfl rfl rfl ?_
    refine q_iconst (pc := 11) (v := 2) k18_11 (by decide) ?_
    refine q_icmp_lt (pc := 12) 19 k18_12 (by decide) (fun g => ?_) (fun g => ?_)
    · replace h := h.1 g
      refine q_iconst (pc := 19) (v := 0) k18_19 (by decide) ?_
      refine q_goto (pc := 20) 39 k18_20 (by decide) ?_
      refine q_istore_n (pc := 39) [some (.ref 3), some (.int 0)] k18_39 rfl (by decide) rfl ?_
      refine q_iload_n (pc := 40) k18_40 rfl ?_
      refine q_if_eq (pc := 41) 55 k18_41 (by decide) (fun _ => ?_) (fun g => absurd g (by decide))
      refine q_iconst (pc := 55) (v := 0) k18_55 (by decide) ?_
      exact q_zreturn (pc := 56) k18_56 rfl (by decide) ⟨_, rfl, h⟩
    · replace h := h.2 g
      refine q_iconst (pc := 15) (v := 1) k18_15 (by decide) ?_
      refine q_goto (pc := 16) 39 k18_16 (by decide) ?_
      refine q_istore_n (pc := 39) [some (.ref 3), some (.int 1)] k18_39 rfl (by decide) rfl ?_
      refine q_iload_n (pc := 40) k18_40 rfl ?_
      refine q_if_eq (pc := 41) 55 k18_41 (by decide) (fun g => absurd g (by decide)) (fun _ => ?_)
      refine q_aload_n (pc := 44) k18_44 rfl ?_
      refine q_getIv (pc := 45) (v := M 3 0) k18_45 fg18_30 rfl rfl rfl ?_
      refine q_iconst (pc := 48) (v := 1) k18_48 (by decide) ?_
      refine q_iadd (pc := 49) k18_49 ?_
      refine q_bipush (pc := 50) (v := 6) k18_50 (by decide) ?_
      refine q_icmp_lt (pc := 52) 57 k18_52 (by decide) (fun g => ?_) (fun g => ?_)
      · replace h := h.1 g
        refine q_aload_n (pc := 57) k18_57 rfl ?_
        refine q_aload_n (pc := 58) k18_58 rfl ?_
        refine q_getIv (pc := 59) (v := M 3 11) k18_59 fg18_69 rfl rfl rfl ?_
        refine q_putI (pc := 62) k18_62 fp18_34 rfl rfl ?_
        refine q_aload_n (pc := 65) k18_65 rfl ?_
        refine q_dup (pc := 66) k18_66 rfl ?_
        refine q_getIv (pc := 67) (v := M 3 0) k18_67 fg18_30 rfl rfl rfl ?_
        refine q_iconst (pc := 70) (v := 1) k18_70 (by decide) ?_
        refine q_iadd (pc := 71) k18_71 ?_
        refine q_putI (pc := 72) k18_72 fp18_30 rfl rfl ?_
        refine q_aload_n (pc := 75) k18_75 rfl ?_
        refine q_iconst (pc := 76) (v := 0) k18_76 (by decide) ?_
        refine q_putI (pc := 77) k18_77 fp18_69 rfl rfl ?_
        refine q_iconst (pc := 80) (v := 1) k18_80 (by decide) ?_
        exact q_zreturn (pc := 81) k18_81 rfl (by decide) ⟨_, rfl, h⟩
      · replace h := h.2 g
        refine q_iconst (pc := 55) (v := 0) k18_55 (by decide) ?_
        exact q_zreturn (pc := 56) k18_56 rfl (by decide) ⟨_, rfl, h⟩
set_option maxRecDepth 20000 in
theorem vc19 {X : Nat × (Nat → Int32)} {d : Nat} (hd : 0 < d) {M : q_M} {a1 : Int32} {K : Int32 → q_M → Prop} (h : ((¬ (M 3 1) = 0) → ((((M 3 1) ≤ (M 3 11)) → (K 0 M)) ∧ ((¬ (M 3 1) ≤ (M 3 11)) → ((((M 3 2) < 30) → (((¬ a1 = 46) → (((a1 < 49) → (((¬ a1 = 35) → (((a1 < 97) → (((a1 < 120) → (K 0 M)) ∧ ((¬ a1 < 120) → (((122 < a1) → (K 0 M)) ∧ ((¬ 122 < a1) → (q_Ci X (d - 1) 20 [.ref 3, .int 3, .int (a1 - 120), .ref 8] M (fun r2 M1 => (r2 = 0 ∨ r2 = 1) ∧ K r2 M1))))))) ∧ ((¬ a1 < 97) → (((99 < a1) → (((a1 < 120) → (K 0 M)) ∧ ((¬ a1 < 120) → (((122 < a1) → (K 0 M)) ∧ ((¬ 122 < a1) → (q_Ci X (d - 1) 20 [.ref 3, .int 3, .int (a1 - 120), .ref 8] M (fun r4 M3 => (r4 = 0 ∨ r4 = 1) ∧ K r4 M3))))))) ∧ ((¬ 99 < a1) → (q_Ci X (d - 1) 20 [.ref 3, .int 2, .int (a1 - 97), .ref 7] M (fun r6 M5 => (r6 = 0 ∨ r6 = 1) ∧ K r6 M5))))))) ∧ ((a1 = 35) → (q_Ci X (d - 1) 21 [.ref 3, .int 1, .int 0, .int (-9)] (q_set M 3 3 ((M 3 3) + 1)) (fun r8 M7 => (r8 = 0 ∨ r8 = 1) ∧ K r8 M7))))) ∧ ((¬ a1 < 49) → (((57 < a1) → (((¬ a1 = 35) → (((a1 < 97) → (((a1 < 120) → (K 0 M)) ∧ ((¬ a1 < 120) → (((122 < a1) → (K 0 M)) ∧ ((¬ 122 < a1) → (q_Ci X (d - 1) 20 [.ref 3, .int 3, .int (a1 - 120), .ref 8] M (fun r10 M9 => (r10 = 0 ∨ r10 = 1) ∧ K r10 M9))))))) ∧ ((¬ a1 < 97) → (((99 < a1) → (((a1 < 120) → (K 0 M)) ∧ ((¬ a1 < 120) → (((122 < a1) → (K 0 M)) ∧ ((¬ 122 < a1) → (q_Ci X (d - 1) 20 [.ref 3, .int 3, .int (a1 - 120), .ref 8] M (fun r12 M11 => (r12 = 0 ∨ r12 = 1) ∧ K r12 M11))))))) ∧ ((¬ 99 < a1) → (q_Ci X (d - 1) 20 [.ref 3, .int 2, .int (a1 - 97), .ref 7] M (fun r14 M13 => (r14 = 0 ∨ r14 = 1) ∧ K r14 M13))))))) ∧ ((a1 = 35) → (q_Ci X (d - 1) 21 [.ref 3, .int 1, .int 0, .int (-9)] (q_set M 3 3 ((M 3 3) + 1)) (fun r16 M15 => (r16 = 0 ∨ r16 = 1) ∧ K r16 M15))))) ∧ ((¬ 57 < a1) → (q_Ci X (d - 1) 21 [.ref 3, .int 0, .int (a1 - 48), .int (-9)] M (fun r18 M17 => (r18 = 0 ∨ r18 = 1) ∧ K r18 M17))))))) ∧ ((a1 = 46) → (q_Ci X (d - 1) 21 [.ref 3, .int 0, .int 0, .int (-9)] M (fun r20 M19 => (r20 = 0 ∨ r20 = 1) ∧ K r20 M19))))) ∧ ((¬ (M 3 2) < 30) → (K 0 M)))))) ∧ (((M 3 1) = 0) → (((5 ≤ (M 3 11)) → (K 0 M)) ∧ ((¬ 5 ≤ (M 3 11)) → ((((M 3 2) < 30) → (((¬ a1 = 46) → (((a1 < 49) → (((¬ a1 = 35) → (((a1 < 97) → (((a1 < 120) → (K 0 M)) ∧ ((¬ a1 < 120) → (((122 < a1) → (K 0 M)) ∧ ((¬ 122 < a1) → (q_Ci X (d - 1) 20 [.ref 3, .int 3, .int (a1 - 120), .ref 8] M (fun r22 M21 => (r22 = 0 ∨ r22 = 1) ∧ K r22 M21))))))) ∧ ((¬ a1 < 97) → (((99 < a1) → (((a1 < 120) → (K 0 M)) ∧ ((¬ a1 < 120) → (((122 < a1) → (K 0 M)) ∧ ((¬ 122 < a1) → (q_Ci X (d - 1) 20 [.ref 3, .int 3, .int (a1 - 120), .ref 8] M (fun r24 M23 => (r24 = 0 ∨ r24 = 1) ∧ K r24 M23))))))) ∧ ((¬ 99 < a1) → (q_Ci X (d - 1) 20 [.ref 3, .int 2, .int (a1 - 97), .ref 7] M (fun r26 M25 => (r26 = 0 ∨ r26 = 1) ∧ K r26 M25))))))) ∧ ((a1 = 35) → (q_Ci X (d - 1) 21 [.ref 3, .int 1, .int 0, .int (-9)] (q_set M 3 3 ((M 3 3) + 1)) (fun r28 M27 => (r28 = 0 ∨ r28 = 1) ∧ K r28 M27))))) ∧ ((¬ a1 < 49) → (((57 < a1) → (((¬ a1 = 35) → (((a1 < 97) → (((a1 < 120) → (K 0 M)) ∧ ((¬ a1 < 120) → (((122 < a1) → (K 0 M)) ∧ ((¬ 122 < a1) → (q_Ci X (d - 1) 20 [.ref 3, .int 3, .int (a1 - 120), .ref 8] M (fun r30 M29 => (r30 = 0 ∨ r30 = 1) ∧ K r30 M29))))))) ∧ ((¬ a1 < 97) → (((99 < a1) → (((a1 < 120) → (K 0 M)) ∧ ((¬ a1 < 120) → (((122 < a1) → (K 0 M)) ∧ ((¬ 122 < a1) → (q_Ci X (d - 1) 20 [.ref 3, .int 3, .int (a1 - 120), .ref 8] M (fun r32 M31 => (r32 = 0 ∨ r32 = 1) ∧ K r32 M31))))))) ∧ ((¬ 99 < a1) → (q_Ci X (d - 1) 20 [.ref 3, .int 2, .int (a1 - 97), .ref 7] M (fun r34 M33 => (r34 = 0 ∨ r34 = 1) ∧ K r34 M33))))))) ∧ ((a1 = 35) → (q_Ci X (d - 1) 21 [.ref 3, .int 1, .int 0, .int (-9)] (q_set M 3 3 ((M 3 3) + 1)) (fun r36 M35 => (r36 = 0 ∨ r36 = 1) ∧ K r36 M35))))) ∧ ((¬ 57 < a1) → (q_Ci X (d - 1) 21 [.ref 3, .int 0, .int (a1 - 48), .int (-9)] M (fun r38 M37 => (r38 = 0 ∨ r38 = 1) ∧ K r38 M37))))))) ∧ ((a1 = 46) → (q_Ci X (d - 1) 21 [.ref 3, .int 0, .int 0, .int (-9)] M (fun r40 M39 => (r40 = 0 ∨ r40 = 1) ∧ K r40 M39))))) ∧ ((¬ (M 3 2) < 30) → (K 0 M))))))) : q_Ci X d 19 [.ref 3, .int a1] M K := by
  show q_Ex X d 19 0 [some (.ref 3), some (.int a1), none] [] M (q_ri K)
  refine q_aload_n (pc := 0) k19_0 rfl ?_
  refine q_getIv (pc := 1) (v := M 3 1) k19_1 fg19_34 rfl rfl rfl ?_
  refine q_if_ne (pc := 4) 11 k19_4 (by decide) (fun g => ?_) (fun g => ?_)
  · replace h := h.1 g
    refine q_aload_n (pc := 11) k19_11 rfl ?_
    refine q_getIv (pc := 12) (v := M 3 1) k19_12 fg19_34 rfl rfl rfl ?_
    refine q_istore_n (pc := 15) [some (.ref 3), some (.int a1), some (.int (M 3 1))] k19_15 rfl (by decide) rfl ?_
    refine q_aload_n (pc := 16) k19_16 rfl ?_
    refine q_getIv (pc := 17) (v := M 3 11) k19_17 fg19_69 rfl rfl rfl ?_
    refine q_iload_n (pc := 20) k19_20 rfl ?_
    refine q_icmp_ge (pc := 21) 33 k19_21 (by decide) (fun g => ?_) (fun g => ?_)
    · replace h := h.1 g
      refine q_iconst (pc := 33) (v := 0) k19_33 (by decide) ?_
      exact q_zreturn (pc := 34) k19_34 rfl (by decide) ⟨_, rfl, h⟩
    · replace h := h.2 g
      refine q_aload_n (pc := 24) k19_24 rfl ?_
      refine q_getIv (pc := 25) (v := M 3 2) k19_25 fg19_37 rfl rfl rfl ?_
      refine q_bipush (pc := 28) (v := 30) k19_28 (by decide) ?_
      refine q_icmp_lt (pc := 30) 35 k19_30 (by decide) (fun g => ?_) (fun g => ?_)
      · replace h := h.1 g
        refine q_iload_n (pc := 35) k19_35 rfl ?_
        refine q_bipush (pc := 36) (v := 46) k19_36 (by decide) ?_
        refine q_icmp_ne (pc := 38) 50 k19_38 (by decide) (fun g => ?_) (fun g => ?_)
        · replace h := h.1 g
          refine q_iload_n (pc := 50) k19_50 rfl ?_
          refine q_bipush (pc := 51) (v := 49) k19_51 (by decide) ?_
          refine q_icmp_lt (pc := 53) 74 k19_53 (by decide) (fun g => ?_) (fun g => ?_)
          · replace h := h.1 g
            refine q_iload_n (pc := 74) k19_74 rfl ?_
            refine q_bipush (pc := 75) (v := 35) k19_75 (by decide) ?_
            refine q_icmp_ne (pc := 77) 99 k19_77 (by decide) (fun g => ?_) (fun g => ?_)
            · replace h := h.1 g
              refine q_iload_n (pc := 99) k19_99 rfl ?_
              refine q_bipush (pc := 100) (v := 97) k19_100 (by decide) ?_
              refine q_icmp_lt (pc := 102) 125 k19_102 (by decide) (fun g => ?_) (fun g => ?_)
              · replace h := h.1 g
                refine q_iload_n (pc := 125) k19_125 rfl ?_
                refine q_bipush (pc := 126) (v := 120) k19_126 (by decide) ?_
                refine q_icmp_lt (pc := 128) 151 k19_128 (by decide) (fun g => ?_) (fun g => ?_)
                · replace h := h.1 g
                  refine q_iconst (pc := 151) (v := 0) k19_151 (by decide) ?_
                  exact q_zreturn (pc := 152) k19_152 rfl (by decide) ⟨_, rfl, h⟩
                · replace h := h.2 g
                  refine q_iload_n (pc := 131) k19_131 rfl ?_
                  refine q_bipush (pc := 132) (v := 122) k19_132 (by decide) ?_
                  refine q_icmp_gt (pc := 134) 151 k19_134 (by decide) (fun g => ?_) (fun g => ?_)
                  · replace h := h.1 g
                    refine q_iconst (pc := 151) (v := 0) k19_151 (by decide) ?_
                    exact q_zreturn (pc := 152) k19_152 rfl (by decide) ⟨_, rfl, h⟩
                  · replace h := h.2 g
                    refine q_aload_n (pc := 137) k19_137 rfl ?_
                    refine q_iconst (pc := 138) (v := 3) k19_138 (by decide) ?_
                    refine q_iload_n (pc := 139) k19_139 rfl ?_
                    refine q_bipush (pc := 140) (v := 120) k19_140 (by decide) ?_
                    refine q_isub (pc := 142) k19_142 ?_
                    refine q_aload_n (pc := 143) k19_143 rfl ?_
                    refine q_getR (pc := 144) k19_144 fg19_24 rfl rfl ?_
                    refine q_invV (pc := 147) (As := [.int 3, .int (a1 - 120), .ref 8]) (st := []) k19_147 lm19_85 ov20 rfl rfl rfl (q_cat rfl) (Nat.le_of_ble_eq_true rfl) hd h ?_
                    rintro v M1 ⟨r2, rfl, h⟩
                    show q_Ex X d 19 (147 + 3) [some (.ref 3), some (.int a1), some (.int (M 3 1))] [.int r2] M1 _
                    exact q_zreturn (pc := 150) k19_150 rfl h.1 ⟨_, rfl, h.2⟩
              · replace h := h.2 g
                refine q_iload_n (pc := 105) k19_105 rfl ?_
                refine q_bipush (pc := 106) (v := 99) k19_106 (by decide) ?_
                refine q_icmp_gt (pc := 108) 125 k19_108 (by decide) (fun g => ?_) (fun g => ?_)
                · replace h := h.1 g
                  refine q_iload_n (pc := 125) k19_125 rfl ?_
                  refine q_bipush (pc := 126) (v := 120) k19_126 (by decide) ?_
                  refine q_icmp_lt (pc := 128) 151 k19_128 (by decide) (fun g => ?_) (fun g => ?_)
                  · replace h := h.1 g
                    refine q_iconst (pc := 151) (v := 0) k19_151 (by decide) ?_
                    exact q_zreturn (pc := 152) k19_152 rfl (by decide) ⟨_, rfl, h⟩
                  · replace h := h.2 g
                    refine q_iload_n (pc := 131) k19_131 rfl ?_
                    refine q_bipush (pc := 132) (v := 122) k19_132 (by decide) ?_
                    refine q_icmp_gt (pc := 134) 151 k19_134 (by decide) (fun g => ?_) (fun g => ?_)
                    · replace h := h.1 g
                      refine q_iconst (pc := 151) (v := 0) k19_151 (by decide) ?_
                      exact q_zreturn (pc := 152) k19_152 rfl (by decide) ⟨_, rfl, h⟩
                    · replace h := h.2 g
                      refine q_aload_n (pc := 137) k19_137 rfl ?_
                      refine q_iconst (pc := 138) (v := 3) k19_138 (by decide) ?_
                      refine q_iload_n (pc := 139) k19_139 rfl ?_
                      refine q_bipush (pc := 140) (v := 120) k19_140 (by decide) ?_
                      refine q_isub (pc := 142) k19_142 ?_
                      refine q_aload_n (pc := 143) k19_143 rfl ?_
                      refine q_getR (pc := 144) k19_144 fg19_24 rfl rfl ?_
                      refine q_invV (pc := 147) (As := [.int 3, .int (a1 - 120), .ref 8]) (st := []) k19_147 lm19_85 ov20 rfl rfl rfl (q_cat rfl) (Nat.le_of_ble_eq_true rfl) hd h ?_
                      rintro v M3 ⟨r4, rfl, h⟩
                      show q_Ex X d 19 (147 + 3) [some (.ref 3), some (.int a1), some (.int (M 3 1))] [.int r4] M3 _
                      exact q_zreturn (pc := 150) k19_150 rfl h.1 ⟨_, rfl, h.2⟩
                · replace h := h.2 g
                  refine q_aload_n (pc := 111) k19_111 rfl ?_
                  refine q_iconst (pc := 112) (v := 2) k19_112 (by decide) ?_
                  refine q_iload_n (pc := 113) k19_113 rfl ?_
                  refine q_bipush (pc := 114) (v := 97) k19_114 (by decide) ?_
                  refine q_isub (pc := 116) k19_116 ?_
                  refine q_aload_n (pc := 117) k19_117 rfl ?_
                  refine q_getR (pc := 118) k19_118 fg19_21 rfl rfl ?_
                  refine q_invV (pc := 121) (As := [.int 2, .int (a1 - 97), .ref 7]) (st := []) k19_121 lm19_85 ov20 rfl rfl rfl (q_cat rfl) (Nat.le_of_ble_eq_true rfl) hd h ?_
                  rintro v M5 ⟨r6, rfl, h⟩
                  show q_Ex X d 19 (121 + 3) [some (.ref 3), some (.int a1), some (.int (M 3 1))] [.int r6] M5 _
                  exact q_zreturn (pc := 124) k19_124 rfl h.1 ⟨_, rfl, h.2⟩
            · replace h := h.2 g
              refine q_aload_n (pc := 80) k19_80 rfl ?_
              refine q_dup (pc := 81) k19_81 rfl ?_
              refine q_getIv (pc := 82) (v := M 3 3) k19_82 fg19_40 rfl rfl rfl ?_
              refine q_iconst (pc := 85) (v := 1) k19_85 (by decide) ?_
              refine q_iadd (pc := 86) k19_86 ?_
              refine q_putI (pc := 87) k19_87 fp19_40 rfl rfl ?_
              refine q_aload_n (pc := 90) k19_90 rfl ?_
              refine q_iconst (pc := 91) (v := 1) k19_91 (by decide) ?_
              refine q_iconst (pc := 92) (v := 0) k19_92 (by decide) ?_
              refine q_bipush (pc := 93) (v := (-9)) k19_93 (by decide) ?_
              refine q_invV (pc := 95) (As := [.int 1, .int 0, .int (-9)]) (st := []) k19_95 lm19_81 ov21 rfl rfl rfl (q_cat rfl) (Nat.le_of_ble_eq_true rfl) hd h ?_
              rintro v M7 ⟨r8, rfl, h⟩
              show q_Ex X d 19 (95 + 3) [some (.ref 3), some (.int a1), some (.int (M 3 1))] [.int r8] M7 _
              exact q_zreturn (pc := 98) k19_98 rfl h.1 ⟨_, rfl, h.2⟩
          · replace h := h.2 g
            refine q_iload_n (pc := 56) k19_56 rfl ?_
            refine q_bipush (pc := 57) (v := 57) k19_57 (by decide) ?_
            refine q_icmp_gt (pc := 59) 74 k19_59 (by decide) (fun g => ?_) (fun g => ?_)
            · replace h := h.1 g
              refine q_iload_n (pc := 74) k19_74 rfl ?_
              refine q_bipush (pc := 75) (v := 35) k19_75 (by decide) ?_
              refine q_icmp_ne (pc := 77) 99 k19_77 (by decide) (fun g => ?_) (fun g => ?_)
              · replace h := h.1 g
                refine q_iload_n (pc := 99) k19_99 rfl ?_
                refine q_bipush (pc := 100) (v := 97) k19_100 (by decide) ?_
                refine q_icmp_lt (pc := 102) 125 k19_102 (by decide) (fun g => ?_) (fun g => ?_)
                · replace h := h.1 g
                  refine q_iload_n (pc := 125) k19_125 rfl ?_
                  refine q_bipush (pc := 126) (v := 120) k19_126 (by decide) ?_
                  refine q_icmp_lt (pc := 128) 151 k19_128 (by decide) (fun g => ?_) (fun g => ?_)
                  · replace h := h.1 g
                    refine q_iconst (pc := 151) (v := 0) k19_151 (by decide) ?_
                    exact q_zreturn (pc := 152) k19_152 rfl (by decide) ⟨_, rfl, h⟩
                  · replace h := h.2 g
                    refine q_iload_n (pc := 131) k19_131 rfl ?_
                    refine q_bipush (pc := 132) (v := 122) k19_132 (by decide) ?_
                    refine q_icmp_gt (pc := 134) 151 k19_134 (by decide) (fun g => ?_) (fun g => ?_)
                    · replace h := h.1 g
                      refine q_iconst (pc := 151) (v := 0) k19_151 (by decide) ?_
                      exact q_zreturn (pc := 152) k19_152 rfl (by decide) ⟨_, rfl, h⟩
                    · replace h := h.2 g
                      refine q_aload_n (pc := 137) k19_137 rfl ?_
                      refine q_iconst (pc := 138) (v := 3) k19_138 (by decide) ?_
                      refine q_iload_n (pc := 139) k19_139 rfl ?_
                      refine q_bipush (pc := 140) (v := 120) k19_140 (by decide) ?_
                      refine q_isub (pc := 142) k19_142 ?_
                      refine q_aload_n (pc := 143) k19_143 rfl ?_
                      refine q_getR (pc := 144) k19_144 fg19_24 rfl rfl ?_
                      refine q_invV (pc := 147) (As := [.int 3, .int (a1 - 120), .ref 8]) (st := []) k19_147 lm19_85 ov20 rfl rfl rfl (q_cat rfl) (Nat.le_of_ble_eq_true rfl) hd h ?_
                      rintro v M9 ⟨r10, rfl, h⟩
                      show q_Ex X d 19 (147 + 3) [some (.ref 3), some (.int a1), some (.int (M 3 1))] [.int r10] M9 _
                      exact q_zreturn (pc := 150) k19_150 rfl h.1 ⟨_, rfl, h.2⟩
                · replace h := h.2 g
                  refine q_iload_n (pc := 105) k19_105 rfl ?_
                  refine q_bipush (pc := 106) (v := 99) k19_106 (by decide) ?_
                  refine q_icmp_gt (pc := 108) 125 k19_108 (by decide) (fun g => ?_) (fun g => ?_)
                  · replace h := h.1 g
                    refine q_iload_n (pc := 125) k19_125 rfl ?_
                    refine q_bipush (pc := 126) (v := 120) k19_126 (by decide) ?_
                    refine q_icmp_lt (pc := 128) 151 k19_128 (by decide) (fun g => ?_) (fun g => ?_)
                    · replace h := h.1 g
                      refine q_iconst (pc := 151) (v := 0) k19_151 (by decide) ?_
                      exact q_zreturn (pc := 152) k19_152 rfl (by decide) ⟨_, rfl, h⟩
                    · replace h := h.2 g
                      refine q_iload_n (pc := 131) k19_131 rfl ?_
                      refine q_bipush (pc := 132) (v := 122) k19_132 (by decide) ?_
                      refine q_icmp_gt (pc := 134) 151 k19_134 (by decide) (fun g => ?_) (fun g => ?_)
                      · replace h := h.1 g
                        refine q_iconst (pc := 151) (v := 0) k19_151 (by decide) ?_
                        exact q_zreturn (pc := 152) k19_152 rfl (by decide) ⟨_, rfl, h⟩
                      · replace h := h.2 g
                        refine q_aload_n (pc := 137) k19_137 rfl ?_
                        refine q_iconst (pc := 138) (v := 3) k19_138 (by decide) ?_
                        refine q_iload_n (pc := 139) k19_139 rfl ?_
                        refine q_bipush (pc := 140) (v := 120) k19_140 (by decide) ?_
                        refine q_isub (pc := 142) k19_142 ?_
                        refine q_aload_n (pc := 143) k19_143 rfl ?_
                        refine q_getR (pc := 144) k19_144 fg19_24 rfl rfl ?_
                        refine q_invV (pc := 147) (As := [.int 3, .int (a1 - 120), .ref 8]) (st := []) k19_147 lm19_85 ov20 rfl rfl rfl (q_cat rfl) (Nat.le_of_ble_eq_true rfl) hd h ?_
                        rintro v M11 ⟨r12, rfl, h⟩
                        show q_Ex X d 19 (147 + 3) [some (.ref 3), some (.int a1), some (.int (M 3 1))] [.int r12] M11 _
                        exact q_zreturn (pc := 150) k19_150 rfl h.1 ⟨_, rfl, h.2⟩
                  · replace h := h.2 g
                    refine q_aload_n (pc := 111) k19_111 rfl ?_
                    refine q_iconst (pc := 112) (v := 2) k19_112 (by decide) ?_
                    refine q_iload_n (pc := 113) k19_113 rfl ?_
                    refine q_bipush (pc := 114) (v := 97) k19_114 (by decide) ?_
                    refine q_isub (pc := 116) k19_116 ?_
                    refine q_aload_n (pc := 117) k19_117 rfl ?_
                    refine q_getR (pc := 118) k19_118 fg19_21 rfl rfl ?_
                    refine q_invV (pc := 121) (As := [.int 2, .int (a1 - 97), .ref 7]) (st := []) k19_121 lm19_85 ov20 rfl rfl rfl (q_cat rfl) (Nat.le_of_ble_eq_true rfl) hd h ?_
                    rintro v M13 ⟨r14, rfl, h⟩
                    show q_Ex X d 19 (121 + 3) [some (.ref 3), some (.int a1), some (.int (M 3 1))] [.int r14] M13 _
                    exact q_zreturn (pc := 124) k19_124 rfl h.1 ⟨_, rfl, h.2⟩
              · replace h := h.2 g
                refine q_aload_n (pc := 80) k19_80 rfl ?_
                refine q_dup (pc := 81) k19_81 rfl ?_
                refine q_getIv (pc := 82) (v := M 3 3) k19_82 fg19_40 rfl rfl rfl ?_
                refine q_iconst (pc := 85) (v := 1) k19_85 (by decide) ?_
                refine q_iadd (pc := 86) k19_86 ?_
                refine q_putI (pc := 87) k19_87 fp19_40 rfl rfl ?_
                refine q_aload_n (pc := 90) k19_90 rfl ?_
                refine q_iconst (pc := 91) (v := 1) k19_91 (by decide) ?_
                refine q_iconst (pc := 92) (v := 0) k19_92 (by decide) ?_
                refine q_bipush (pc := 93) (v := (-9)) k19_93 (by decide) ?_
                refine q_invV (pc := 95) (As := [.int 1, .int 0, .int (-9)]) (st := []) k19_95 lm19_81 ov21 rfl rfl rfl (q_cat rfl) (Nat.le_of_ble_eq_true rfl) hd h ?_
                rintro v M15 ⟨r16, rfl, h⟩
                show q_Ex X d 19 (95 + 3) [some (.ref 3), some (.int a1), some (.int (M 3 1))] [.int r16] M15 _
                exact q_zreturn (pc := 98) k19_98 rfl h.1 ⟨_, rfl, h.2⟩
            · replace h := h.2 g
              refine q_aload_n (pc := 62) k19_62 rfl ?_
              refine q_iconst (pc := 63) (v := 0) k19_63 (by decide) ?_
              refine q_iload_n (pc := 64) k19_64 rfl ?_
              refine q_bipush (pc := 65) (v := 48) k19_65 (by decide) ?_
              refine q_isub (pc := 67) k19_67 ?_
              refine q_bipush (pc := 68) (v := (-9)) k19_68 (by decide) ?_
              refine q_invV (pc := 70) (As := [.int 0, .int (a1 - 48), .int (-9)]) (st := []) k19_70 lm19_81 ov21 rfl rfl rfl (q_cat rfl) (Nat.le_of_ble_eq_true rfl) hd h ?_
              rintro v M17 ⟨r18, rfl, h⟩
              show q_Ex X d 19 (70 + 3) [some (.ref 3), some (.int a1), some (.int (M 3 1))] [.int r18] M17 _
              exact q_zreturn (pc := 73) k19_73 rfl h.1 ⟨_, rfl, h.2⟩
        · replace h := h.2 g
          refine q_aload_n (pc := 41) k19_41 rfl ?_
          refine q_iconst (pc := 42) (v := 0) k19_42 (by decide) ?_
          refine q_iconst (pc := 43) (v := 0) k19_43 (by decide) ?_
          refine q_bipush (pc := 44) (v := (-9)) k19_44 (by decide) ?_
          refine q_invV (pc := 46) (As := [.int 0, .int 0, .int (-9)]) (st := []) k19_46 lm19_81 ov21 rfl rfl rfl (q_cat rfl) (Nat.le_of_ble_eq_true rfl) hd h ?_
          rintro v M19 ⟨r20, rfl, h⟩
          show q_Ex X d 19 (46 + 3) [some (.ref 3), some (.int a1), some (.int (M 3 1))] [.int r20] M19 _
          exact q_zreturn (pc := 49) k19_49 rfl h.1 ⟨_, rfl, h.2⟩
      · replace h := h.2 g
        refine q_iconst (pc := 33) (v := 0) k19_33 (by decide) ?_
        exact q_zreturn (pc := 34) k19_34 rfl (by decide) ⟨_, rfl, h⟩
  · replace h := h.2 g
    refine q_iconst (pc := 7) (v := 5) k19_7 (by decide) ?_
    refine q_goto (pc := 8) 15 k19_8 (by decide) ?_
    refine q_istore_n (pc := 15) [some (.ref 3), some (.int a1), some (.int 5)] k19_15 rfl (by decide) rfl ?_
    refine q_aload_n (pc := 16) k19_16 rfl ?_
    refine q_getIv (pc := 17) (v := M 3 11) k19_17 fg19_69 rfl rfl rfl ?_
    refine q_iload_n (pc := 20) k19_20 rfl ?_
    refine q_icmp_ge (pc := 21) 33 k19_21 (by decide) (fun g => ?_) (fun g => ?_)
    · replace h := h.1 g
      refine q_iconst (pc := 33) (v := 0) k19_33 (by decide) ?_
      exact q_zreturn (pc := 34) k19_34 rfl (by decide) ⟨_, rfl, h⟩
    · replace h := h.2 g
      refine q_aload_n (pc := 24) k19_24 rfl ?_
      refine q_getIv (pc := 25) (v := M 3 2) k19_25 fg19_37 rfl rfl rfl ?_
      refine q_bipush (pc := 28) (v := 30) k19_28 (by decide) ?_
      refine q_icmp_lt (pc := 30) 35 k19_30 (by decide) (fun g => ?_) (fun g => ?_)
      · replace h := h.1 g
        refine q_iload_n (pc := 35) k19_35 rfl ?_
        refine q_bipush (pc := 36) (v := 46) k19_36 (by decide) ?_
        refine q_icmp_ne (pc := 38) 50 k19_38 (by decide) (fun g => ?_) (fun g => ?_)
        · replace h := h.1 g
          refine q_iload_n (pc := 50) k19_50 rfl ?_
          refine q_bipush (pc := 51) (v := 49) k19_51 (by decide) ?_
          refine q_icmp_lt (pc := 53) 74 k19_53 (by decide) (fun g => ?_) (fun g => ?_)
          · replace h := h.1 g
            refine q_iload_n (pc := 74) k19_74 rfl ?_
            refine q_bipush (pc := 75) (v := 35) k19_75 (by decide) ?_
            refine q_icmp_ne (pc := 77) 99 k19_77 (by decide) (fun g => ?_) (fun g => ?_)
            · replace h := h.1 g
              refine q_iload_n (pc := 99) k19_99 rfl ?_
              refine q_bipush (pc := 100) (v := 97) k19_100 (by decide) ?_
              refine q_icmp_lt (pc := 102) 125 k19_102 (by decide) (fun g => ?_) (fun g => ?_)
              · replace h := h.1 g
                refine q_iload_n (pc := 125) k19_125 rfl ?_
                refine q_bipush (pc := 126) (v := 120) k19_126 (by decide) ?_
                refine q_icmp_lt (pc := 128) 151 k19_128 (by decide) (fun g => ?_) (fun g => ?_)
                · replace h := h.1 g
                  refine q_iconst (pc := 151) (v := 0) k19_151 (by decide) ?_
                  exact q_zreturn (pc := 152) k19_152 rfl (by decide) ⟨_, rfl, h⟩
                · replace h := h.2 g
                  refine q_iload_n (pc := 131) k19_131 rfl ?_
                  refine q_bipush (pc := 132) (v := 122) k19_132 (by decide) ?_
                  refine q_icmp_gt (pc := 134) 151 k19_134 (by decide) (fun g => ?_) (fun g => ?_)
                  · replace h := h.1 g
                    refine q_iconst (pc := 151) (v := 0) k19_151 (by decide) ?_
                    exact q_zreturn (pc := 152) k19_152 rfl (by decide) ⟨_, rfl, h⟩
                  · replace h := h.2 g
                    refine q_aload_n (pc := 137) k19_137 rfl ?_
                    refine q_iconst (pc := 138) (v := 3) k19_138 (by decide) ?_
                    refine q_iload_n (pc := 139) k19_139 rfl ?_
                    refine q_bipush (pc := 140) (v := 120) k19_140 (by decide) ?_
                    refine q_isub (pc := 142) k19_142 ?_
                    refine q_aload_n (pc := 143) k19_143 rfl ?_
                    refine q_getR (pc := 144) k19_144 fg19_24 rfl rfl ?_
                    refine q_invV (pc := 147) (As := [.int 3, .int (a1 - 120), .ref 8]) (st := []) k19_147 lm19_85 ov20 rfl rfl rfl (q_cat rfl) (Nat.le_of_ble_eq_true rfl) hd h ?_
                    rintro v M21 ⟨r22, rfl, h⟩
                    show q_Ex X d 19 (147 + 3) [some (.ref 3), some (.int a1), some (.int 5)] [.int r22] M21 _
                    exact q_zreturn (pc := 150) k19_150 rfl h.1 ⟨_, rfl, h.2⟩
              · replace h := h.2 g
                refine q_iload_n (pc := 105) k19_105 rfl ?_
                refine q_bipush (pc := 106) (v := 99) k19_106 (by decide) ?_
                refine q_icmp_gt (pc := 108) 125 k19_108 (by decide) (fun g => ?_) (fun g => ?_)
                · replace h := h.1 g
                  refine q_iload_n (pc := 125) k19_125 rfl ?_
                  refine q_bipush (pc := 126) (v := 120) k19_126 (by decide) ?_
                  refine q_icmp_lt (pc := 128) 151 k19_128 (by decide) (fun g => ?_) (fun g => ?_)
                  · replace h := h.1 g
                    refine q_iconst (pc := 151) (v := 0) k19_151 (by decide) ?_
                    exact q_zreturn (pc := 152) k19_152 rfl (by decide) ⟨_, rfl, h⟩
                  · replace h := h.2 g
                    refine q_iload_n (pc := 131) k19_131 rfl ?_
                    refine q_bipush (pc := 132) (v := 122) k19_132 (by decide) ?_
                    refine q_icmp_gt (pc := 134) 151 k19_134 (by decide) (fun g => ?_) (fun g => ?_)
                    · replace h := h.1 g
                      refine q_iconst (pc := 151) (v := 0) k19_151 (by decide) ?_
                      exact q_zreturn (pc := 152) k19_152 rfl (by decide) ⟨_, rfl, h⟩
                    · replace h := h.2 g
                      refine q_aload_n (pc := 137) k19_137 rfl ?_
                      refine q_iconst (pc := 138) (v := 3) k19_138 (by decide) ?_
                      refine q_iload_n (pc := 139) k19_139 rfl ?_
                      refine q_bipush (pc := 140) (v := 120) k19_140 (by decide) ?_
                      refine q_isub (pc := 142) k19_142 ?_
                      refine q_aload_n (pc := 143) k19_143 rfl ?_
                      refine q_getR (pc := 144) k19_144 fg19_24 rfl rfl ?_
                      refine q_invV (pc := 147) (As := [.int 3, .int (a1 - 120), .ref 8]) (st := []) k19_147 lm19_85 ov20 rfl rfl rfl (q_cat rfl) (Nat.le_of_ble_eq_true rfl) hd h ?_
                      rintro v M23 ⟨r24, rfl, h⟩
                      show q_Ex X d 19 (147 + 3) [some (.ref 3), some (.int a1), some (.int 5)] [.int r24] M23 _
                      exact q_zreturn (pc := 150) k19_150 rfl h.1 ⟨_, rfl, h.2⟩
                · replace h := h.2 g
                  refine q_aload_n (pc := 111) k19_111 rfl ?_
                  refine q_iconst (pc := 112) (v := 2) k19_112 (by decide) ?_
                  refine q_iload_n (pc := 113) k19_113 rfl ?_
                  refine q_bipush (pc := 114) (v := 97) k19_114 (by decide) ?_
                  refine q_isub (pc := 116) k19_116 ?_
                  refine q_aload_n (pc := 117) k19_117 rfl ?_
                  refine q_getR (pc := 118) k19_118 fg19_21 rfl rfl ?_
                  refine q_invV (pc := 121) (As := [.int 2, .int (a1 - 97), .ref 7]) (st := []) k19_121 lm19_85 ov20 rfl rfl rfl (q_cat rfl) (Nat.le_of_ble_eq_true rfl) hd h ?_
                  rintro v M25 ⟨r26, rfl, h⟩
                  show q_Ex X d 19 (121 + 3) [some (.ref 3), some (.int a1), some (.int 5)] [.int r26] M25 _
                  exact q_zreturn (pc := 124) k19_124 rfl h.1 ⟨_, rfl, h.2⟩
            · replace h := h.2 g
              refine q_aload_n (pc := 80) k19_80 rfl ?_
              refine q_dup (pc := 81) k19_81 rfl ?_
              refine q_getIv (pc := 82) (v := M 3 3) k19_82 fg19_40 rfl rfl rfl ?_
              refine q_iconst (pc := 85) (v := 1) k19_85 (by decide) ?_
              refine q_iadd (pc := 86) k19_86 ?_
              refine q_putI (pc := 87) k19_87 fp19_40 rfl rfl ?_
              refine q_aload_n (pc := 90) k19_90 rfl ?_
              refine q_iconst (pc := 91) (v := 1) k19_91 (by decide) ?_
              refine q_iconst (pc := 92) (v := 0) k19_92 (by decide) ?_
              refine q_bipush (pc := 93) (v := (-9)) k19_93 (by decide) ?_
              refine q_invV (pc := 95) (As := [.int 1, .int 0, .int (-9)]) (st := []) k19_95 lm19_81 ov21 rfl rfl rfl (q_cat rfl) (Nat.le_of_ble_eq_true rfl) hd h ?_
              rintro v M27 ⟨r28, rfl, h⟩
              show q_Ex X d 19 (95 + 3) [some (.ref 3), some (.int a1), some (.int 5)] [.int r28] M27 _
              exact q_zreturn (pc := 98) k19_98 rfl h.1 ⟨_, rfl, h.2⟩
          · replace h := h.2 g
            refine q_iload_n (pc := 56) k19_56 rfl ?_
            refine q_bipush (pc := 57) (v := 57) k19_57 (by decide) ?_
            refine q_icmp_gt (pc := 59) 74 k19_59 (by decide) (fun g => ?_) (fun g => ?_)
            · replace h := h.1 g
              refine q_iload_n (pc := 74) k19_74 rfl ?_
              refine q_bipush (pc := 75) (v := 35) k19_75 (by decide) ?_
              refine q_icmp_ne (pc := 77) 99 k19_77 (by decide) (fun g => ?_) (fun g => ?_)
              · replace h := h.1 g
                refine q_iload_n (pc := 99) k19_99 rfl ?_
                refine q_bipush (pc := 100) (v := 97) k19_100 (by decide) ?_
                refine q_icmp_lt (pc := 102) 125 k19_102 (by decide) (fun g => ?_) (fun g => ?_)
                · replace h := h.1 g
                  refine q_iload_n (pc := 125) k19_125 rfl ?_
                  refine q_bipush (pc := 126) (v := 120) k19_126 (by decide) ?_
                  refine q_icmp_lt (pc := 128) 151 k19_128 (by decide) (fun g => ?_) (fun g => ?_)
                  · replace h := h.1 g
                    refine q_iconst (pc := 151) (v := 0) k19_151 (by decide) ?_
                    exact q_zreturn (pc := 152) k19_152 rfl (by decide) ⟨_, rfl, h⟩
                  · replace h := h.2 g
                    refine q_iload_n (pc := 131) k19_131 rfl ?_
                    refine q_bipush (pc := 132) (v := 122) k19_132 (by decide) ?_
                    refine q_icmp_gt (pc := 134) 151 k19_134 (by decide) (fun g => ?_) (fun g => ?_)
                    · replace h := h.1 g
                      refine q_iconst (pc := 151) (v := 0) k19_151 (by decide) ?_
                      exact q_zreturn (pc := 152) k19_152 rfl (by decide) ⟨_, rfl, h⟩
                    · replace h := h.2 g
                      refine q_aload_n (pc := 137) k19_137 rfl ?_
                      refine q_iconst (pc := 138) (v := 3) k19_138 (by decide) ?_
                      refine q_iload_n (pc := 139) k19_139 rfl ?_
                      refine q_bipush (pc := 140) (v := 120) k19_140 (by decide) ?_
                      refine q_isub (pc := 142) k19_142 ?_
                      refine q_aload_n (pc := 143) k19_143 rfl ?_
                      refine q_getR (pc := 144) k19_144 fg19_24 rfl rfl ?_
                      refine q_invV (pc := 147) (As := [.int 3, .int (a1 - 120), .ref 8]) (st := []) k19_147 lm19_85 ov20 rfl rfl rfl (q_cat rfl) (Nat.le_of_ble_eq_true rfl) hd h ?_
                      rintro v M29 ⟨r30, rfl, h⟩
                      show q_Ex X d 19 (147 + 3) [some (.ref 3), some (.int a1), some (.int 5)] [.int r30] M29 _
                      exact q_zreturn (pc := 150) k19_150 rfl h.1 ⟨_, rfl, h.2⟩
                · replace h := h.2 g
                  refine q_iload_n (pc := 105) k19_105 rfl ?_
                  refine q_bipush (pc := 106) (v := 99) k19_106 (by decide) ?_
                  refine q_icmp_gt (pc := 108) 125 k19_108 (by decide) (fun g => ?_) (fun g => ?_)
                  · replace h := h.1 g
                    refine q_iload_n (pc := 125) k19_125 rfl ?_
                    refine q_bipush (pc := 126) (v := 120) k19_126 (by decide) ?_
                    refine q_icmp_lt (pc := 128) 151 k19_128 (by decide) (fun g => ?_) (fun g => ?_)
                    · replace h := h.1 g
                      refine q_iconst (pc := 151) (v := 0) k19_151 (by decide) ?_
                      exact q_zreturn (pc := 152) k19_152 rfl (by decide) ⟨_, rfl, h⟩
                    · replace h := h.2 g
                      refine q_iload_n (pc := 131) k19_131 rfl ?_
                      refine q_bipush (pc := 132) (v := 122) k19_132 (by decide) ?_
                      refine q_icmp_gt (pc := 134) 151 k19_134 (by decide) (fun g => ?_) (fun g => ?_)
                      · replace h := h.1 g
                        refine q_iconst (pc := 151) (v := 0) k19_151 (by decide) ?_
                        exact q_zreturn (pc := 152) k19_152 rfl (by decide) ⟨_, rfl, h⟩
                      · replace h := h.2 g
                        refine q_aload_n (pc := 137) k19_137 rfl ?_
                        refine q_iconst (pc := 138) (v := 3) k19_138 (by decide) ?_
                        refine q_iload_n (pc := 139) k19_139 rfl ?_
                        refine q_bipush (pc := 140) (v := 120) k19_140 (by decide) ?_
                        refine q_isub (pc := 142) k19_142 ?_
                        refine q_aload_n (pc := 143) k19_143 rfl ?_
                        refine q_getR (pc := 144) k19_144 fg19_24 rfl rfl ?_
                        refine q_invV (pc := 147) (As := [.int 3, .int (a1 - 120), .ref 8]) (st := []) k19_147 lm19_85 ov20 rfl rfl rfl (q_cat rfl) (Nat.le_of_ble_eq_true rfl) hd h ?_
                        rintro v M31 ⟨r32, rfl, h⟩
                        show q_Ex X d 19 (147 + 3) [some (.ref 3), some (.int a1), some (.int 5)] [.int r32] M31 _
                        exact q_zreturn (pc := 150) k19_150 rfl h.1 ⟨_, rfl, h.2⟩
                  · replace h := h.2 g
                    refine q_aload_n (pc := 111) k19_111 rfl ?_
                    refine q_iconst (pc := 112) (v := 2) k19_112 (by decide) ?_
                    refine q_iload_n (pc := 113) k19_113 rfl ?_
                    refine q_bipush (pc := 114) (v := 97) k19_114 (by decide) ?_
                    refine q_isub (pc := 116) k19_116 ?_
                    refine q_aload_n (pc := 117) k19_117 rfl ?_
                    refine q_getR (pc := 118) k19_118 fg19_21 rfl rfl ?_
                    refine q_invV (pc := 121) (As := [.int 2, .int (a1 - 97), .ref 7]) (st := []) k19_121 lm19_85 ov20 rfl rfl rfl (q_cat rfl) (Nat.le_of_ble_eq_true rfl) hd h ?_
                    rintro v M33 ⟨r34, rfl, h⟩
                    show q_Ex X d 19 (121 + 3) [some (.ref 3), some (.int a1), some (.int 5)] [.int r34] M33 _
                    exact q_zreturn (pc := 124) k19_124 rfl h.1 ⟨_, rfl, h.2⟩
              · replace h := h.2 g
                refine q_aload_n (pc := 80) k19_80 rfl ?_
                refine q_dup (pc := 81) k19_81 rfl ?_
                refine q_getIv (pc := 82) (v := M 3 3) k19_82 fg19_40 rfl rfl rfl ?_
                refine q_iconst (pc := 85) (v := 1) k19_85 (by decide) ?_
                refine q_iadd (pc := 86) k19_86 ?_
                refine q_putI (pc := 87) k19_87 fp19_40 rfl rfl ?_
                refine q_aload_n (pc := 90) k19_90 rfl ?_
                refine q_iconst (pc := 91) (v := 1) k19_91 (by decide) ?_
                refine q_iconst (pc := 92) (v := 0) k19_92 (by decide) ?_
                refine q_bipush (pc := 93) (v := (-9)) k19_93 (by decide) ?_
                refine q_invV (pc := 95) (As := [.int 1, .int 0, .int (-9)]) (st := []) k19_95 lm19_81 ov21 rfl rfl rfl (q_cat rfl) (Nat.le_of_ble_eq_true rfl) hd h ?_
                rintro v M35 ⟨r36, rfl, h⟩
                show q_Ex X d 19 (95 + 3) [some (.ref 3), some (.int a1), some (.int 5)] [.int r36] M35 _
                exact q_zreturn (pc := 98) k19_98 rfl h.1 ⟨_, rfl, h.2⟩
            · replace h := h.2 g
              refine q_aload_n (pc := 62) k19_62 rfl ?_
              refine q_iconst (pc := 63) (v := 0) k19_63 (by decide) ?_
              refine q_iload_n (pc := 64) k19_64 rfl ?_
              refine q_bipush (pc := 65) (v := 48) k19_65 (by decide) ?_
              refine q_isub (pc := 67) k19_67 ?_
              refine q_bipush (pc := 68) (v := (-9)) k19_68 (by decide) ?_
              refine q_invV (pc := 70) (As := [.int 0, .int (a1 - 48), .int (-9)]) (st := []) k19_70 lm19_81 ov21 rfl rfl rfl (q_cat rfl) (Nat.le_of_ble_eq_true rfl) hd h ?_
              rintro v M37 ⟨r38, rfl, h⟩
              show q_Ex X d 19 (70 + 3) [some (.ref 3), some (.int a1), some (.int 5)] [.int r38] M37 _
              exact q_zreturn (pc := 73) k19_73 rfl h.1 ⟨_, rfl, h.2⟩
        · replace h := h.2 g
          refine q_aload_n (pc := 41) k19_41 rfl ?_
          refine q_iconst (pc := 42) (v := 0) k19_42 (by decide) ?_
          refine q_iconst (pc := 43) (v := 0) k19_43 (by decide) ?_
          refine q_bipush (pc := 44) (v := (-9)) k19_44 (by decide) ?_
          refine q_invV (pc := 46) (As := [.int 0, .int 0, .int (-9)]) (st := []) k19_46 lm19_81 ov21 rfl rfl rfl (q_cat rfl) (Nat.le_of_ble_eq_true rfl) hd h ?_
          rintro v M39 ⟨r40, rfl, h⟩
          show q_Ex X d 19 (46 + 3) [some (.ref 3), some (.int a1), some (.int 5)] [.int r40] M39 _
          exact q_zreturn (pc := 49) k19_49 rfl h.1 ⟨_, rfl, h.2⟩
      · replace h := h.2 g
        refine q_iconst (pc := 33) (v := 0) k19_33 (by decide) ?_
        exact q_zreturn (pc := 34) k19_34 rfl (by decide) ⟨_, rfl, h⟩
