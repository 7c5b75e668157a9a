/-! The code tables are the code: seen by the kernel. -/
theorem oe_k2 : oe_c2.all (oe_chk 2) = true := by decide +kernel
theorem oe_k3 : oe_c3.all (oe_chk 3) = true := by decide +kernel
theorem oe_k4 : oe_c4.all (oe_chk 4) = true := by decide +kernel
theorem oe_k5 : oe_c5.all (oe_chk 5) = true := by decide +kernel
theorem oe_k6 : oe_c6.all (oe_chk 6) = true := by decide +kernel
theorem oe_k7 : oe_c7.all (oe_chk 7) = true := by decide +kernel
theorem oe_k8 : oe_c8.all (oe_chk 8) = true := by decide +kernel
theorem oe_k9 : oe_c9.all (oe_chk 9) = true := by decide +kernel
theorem oe_k10 : oe_c10.all (oe_chk 10) = true := by decide +kernel
theorem oe_k11 : oe_c11.all (oe_chk 11) = true := by decide +kernel
theorem oe_k12 : oe_c12.all (oe_chk 12) = true := by decide +kernel
theorem oe_k13 : oe_c13.all (oe_chk 13) = true := by decide +kernel
theorem oe_k14 : oe_c14.all (oe_chk 14) = true := by decide +kernel
theorem oe_k15 : oe_c15.all (oe_chk 15) = true := by decide +kernel
theorem oe_k16 : oe_c16.all (oe_chk 16) = true := by decide +kernel
theorem oe_k17 : oe_c17.all (oe_chk 17) = true := by decide +kernel
theorem oe_k18 : oe_c18.all (oe_chk 18) = true := by decide +kernel
theorem oe_k19 : oe_c19.all (oe_chk 19) = true := by decide +kernel
theorem oe_k20 : oe_c20.all (oe_chk 20) = true := by decide +kernel
theorem oe_k21 : oe_c21.all (oe_chk 21) = true := by decide +kernel
theorem oe_k22 : oe_c22.all (oe_chk 22) = true := by decide +kernel
theorem oe_k23 : oe_c23.all (oe_chk 23) = true := by decide +kernel
theorem oe_k24 : oe_c24.all (oe_chk 24) = true := by decide +kernel
theorem oe_k25 : oe_c25.all (oe_chk 25) = true := by decide +kernel
theorem oe_k26 : oe_c26.all (oe_chk 26) = true := by decide +kernel
theorem oe_k27 : oe_c27.all (oe_chk 27) = true := by decide +kernel
theorem oe_k28 : oe_c28.all (oe_chk 28) = true := by decide +kernel
theorem oe_k29 : oe_c29.all (oe_chk 29) = true := by decide +kernel
theorem oe_k30 : oe_c30.all (oe_chk 30) = true := by decide +kernel
theorem oe_k31 : oe_c31.all (oe_chk 31) = true := by decide +kernel
theorem oe_k32 : oe_c32.all (oe_chk 32) = true := by decide +kernel
theorem oe_k33 : oe_c33.all (oe_chk 33) = true := by decide +kernel
theorem oe_k34 : oe_c34.all (oe_chk 34) = true := by decide +kernel
theorem oe_k35 : oe_c35.all (oe_chk 35) = true := by decide +kernel
theorem oe_k36 : oe_c36.all (oe_chk 36) = true := by decide +kernel
theorem oe_k37 : oe_c37.all (oe_chk 37) = true := by decide +kernel
theorem oe_k38 : oe_c38.all (oe_chk 38) = true := by decide +kernel
theorem oe_k39 : oe_c39.all (oe_chk 39) = true := by decide +kernel
theorem oe_k40 : oe_c40.all (oe_chk 40) = true := by decide +kernel
theorem oe_k41 : oe_c41.all (oe_chk 41) = true := by decide +kernel
theorem oe_k42 : oe_c42.all (oe_chk 42) = true := by decide +kernel
theorem oe_k43 : oe_c43.all (oe_chk 43) = true := by decide +kernel
theorem oe_k44 : oe_c44.all (oe_chk 44) = true := by decide +kernel
theorem oe_k45 : oe_c45.all (oe_chk 45) = true := by decide +kernel
theorem oe_k46 : oe_c46.all (oe_chk 46) = true := by decide +kernel
theorem oe_k47 : oe_c47.all (oe_chk 47) = true := by decide +kernel
theorem oe_k48 : oe_c48.all (oe_chk 48) = true := by decide +kernel
theorem oe_k49 : oe_c49.all (oe_chk 49) = true := by decide +kernel
theorem oe_k50 : oe_c50.all (oe_chk 50) = true := by decide +kernel
theorem oe_k51 : oe_c51.all (oe_chk 51) = true := by decide +kernel
theorem oe_k52 : oe_c52.all (oe_chk 52) = true := by decide +kernel
theorem oe_k53 : oe_c53.all (oe_chk 53) = true := by decide +kernel
theorem oe_k54 : oe_c54.all (oe_chk 54) = true := by decide +kernel
theorem oe_k55 : oe_c55.all (oe_chk 55) = true := by decide +kernel
theorem oe_k56 : oe_c56.all (oe_chk 56) = true := by decide +kernel
theorem oe_k57 : oe_c57.all (oe_chk 57) = true := by decide +kernel
theorem oe_k58 : oe_c58.all (oe_chk 58) = true := by decide +kernel
theorem oe_k59 : oe_c59.all (oe_chk 59) = true := by decide +kernel
theorem oe_k60 : oe_c60.all (oe_chk 60) = true := by decide +kernel
theorem oe_k61 : oe_c61.all (oe_chk 61) = true := by decide +kernel
theorem oe_k62 : oe_c62.all (oe_chk 62) = true := by decide +kernel
theorem oe_k63 : oe_c63.all (oe_chk 63) = true := by decide +kernel
theorem oe_k64 : oe_c64.all (oe_chk 64) = true := by decide +kernel
theorem oe_k65 : oe_c65.all (oe_chk 65) = true := by decide +kernel
theorem oe_k66 : oe_c66.all (oe_chk 66) = true := by decide +kernel
theorem oe_k67 : oe_c67.all (oe_chk 67) = true := by decide +kernel
theorem oe_k68 : oe_c68.all (oe_chk 68) = true := by decide +kernel
theorem oe_k69 : oe_c69.all (oe_chk 69) = true := by decide +kernel
theorem oe_k70 : oe_c70.all (oe_chk 70) = true := by decide +kernel
theorem oe_k71 : oe_c71.all (oe_chk 71) = true := by decide +kernel
theorem oe_k72 : oe_c72.all (oe_chk 72) = true := by decide +kernel
theorem oe_k73 : oe_c73.all (oe_chk 73) = true := by decide +kernel
theorem oe_k74 : oe_c74.all (oe_chk 74) = true := by decide +kernel
theorem oe_k75 : oe_c75.all (oe_chk 75) = true := by decide +kernel
theorem oe_k76 : oe_c76.all (oe_chk 76) = true := by decide +kernel
theorem oe_k77 : oe_c77.all (oe_chk 77) = true := by decide +kernel
theorem oe_k78 : oe_c78.all (oe_chk 78) = true := by decide +kernel
theorem oe_k79 : oe_c79.all (oe_chk 79) = true := by decide +kernel
theorem oe_k80 : oe_c80.all (oe_chk 80) = true := by decide +kernel
theorem oe_k81 : oe_c81.all (oe_chk 81) = true := by decide +kernel
theorem oe_k82 : oe_c82.all (oe_chk 82) = true := by decide +kernel
theorem oe_k83 : oe_c83.all (oe_chk 83) = true := by decide +kernel
theorem oe_k84 : oe_c84.all (oe_chk 84) = true := by decide +kernel
theorem oe_k85 : oe_c85.all (oe_chk 85) = true := by decide +kernel
theorem oe_k86 : oe_c86.all (oe_chk 86) = true := by decide +kernel
theorem oe_k87 : oe_c87.all (oe_chk 87) = true := by decide +kernel
theorem oe_k88 : oe_c88.all (oe_chk 88) = true := by decide +kernel
theorem oe_k89 : oe_c89.all (oe_chk 89) = true := by decide +kernel
theorem oe_k90 : oe_c90.all (oe_chk 90) = true := by decide +kernel
theorem oe_k91 : oe_c91.all (oe_chk 91) = true := by decide +kernel
theorem oe_k92 : oe_c92.all (oe_chk 92) = true := by decide +kernel
theorem oe_k93 : oe_c93.all (oe_chk 93) = true := by decide +kernel
theorem oe_k94 : oe_c94.all (oe_chk 94) = true := by decide +kernel
theorem oe_k95 : oe_c95.all (oe_chk 95) = true := by decide +kernel
theorem oe_k96 : oe_c96.all (oe_chk 96) = true := by decide +kernel
theorem oe_k97 : oe_c97.all (oe_chk 97) = true := by decide +kernel
theorem oe_k98 : oe_c98.all (oe_chk 98) = true := by decide +kernel
theorem oe_k99 : oe_c99.all (oe_chk 99) = true := by decide +kernel
theorem oe_k100 : oe_c100.all (oe_chk 100) = true := by decide +kernel
theorem oe_k101 : oe_c101.all (oe_chk 101) = true := by decide +kernel
theorem oe_k102 : oe_c102.all (oe_chk 102) = true := by decide +kernel
theorem oe_k103 : oe_c103.all (oe_chk 103) = true := by decide +kernel
theorem oe_k104 : oe_c104.all (oe_chk 104) = true := by decide +kernel
theorem oe_k105 : oe_c105.all (oe_chk 105) = true := by decide +kernel
theorem oe_k106 : oe_c106.all (oe_chk 106) = true := by decide +kernel
theorem oe_k107 : oe_c107.all (oe_chk 107) = true := by decide +kernel
theorem oe_k108 : oe_c108.all (oe_chk 108) = true := by decide +kernel
theorem oe_k109 : oe_c109.all (oe_chk 109) = true := by decide +kernel
theorem oe_k110 : oe_c110.all (oe_chk 110) = true := by decide +kernel
theorem oe_k111 : oe_c111.all (oe_chk 111) = true := by decide +kernel
theorem oe_k112 : oe_c112.all (oe_chk 112) = true := by decide +kernel
theorem oe_k113 : oe_c113.all (oe_chk 113) = true := by decide +kernel
theorem oe_k114 : oe_c114.all (oe_chk 114) = true := by decide +kernel
theorem oe_k115 : oe_c115.all (oe_chk 115) = true := by decide +kernel
theorem oe_k116 : oe_c116.all (oe_chk 116) = true := by decide +kernel
theorem oe_k117 : oe_c117.all (oe_chk 117) = true := by decide +kernel
theorem oe_k118 : oe_c118.all (oe_chk 118) = true := by decide +kernel
theorem oe_k119 : oe_c119.all (oe_chk 119) = true := by decide +kernel
theorem oe_k120 : oe_c120.all (oe_chk 120) = true := by decide +kernel
theorem oe_k121 : oe_c121.all (oe_chk 121) = true := by decide +kernel
theorem oe_k122 : oe_c122.all (oe_chk 122) = true := by decide +kernel
theorem oe_k123 : oe_c123.all (oe_chk 123) = true := by decide +kernel
theorem oe_k124 : oe_c124.all (oe_chk 124) = true := by decide +kernel
theorem oe_k125 : oe_c125.all (oe_chk 125) = true := by decide +kernel
theorem oe_k126 : oe_c126.all (oe_chk 126) = true := by decide +kernel
theorem oe_k127 : oe_c127.all (oe_chk 127) = true := by decide +kernel
theorem oe_k128 : oe_c128.all (oe_chk 128) = true := by decide +kernel
theorem oe_k129 : oe_c129.all (oe_chk 129) = true := by decide +kernel
theorem oe_k130 : oe_c130.all (oe_chk 130) = true := by decide +kernel
theorem oe_kA : ∀ j, (oe_code j).all (oe_chk j) = true
  | 0 => rfl
  | 1 => rfl
  | 2 => oe_k2
  | 3 => oe_k3
  | 4 => oe_k4
  | 5 => oe_k5
  | 6 => oe_k6
  | 7 => oe_k7
  | 8 => oe_k8
  | 9 => oe_k9
  | 10 => oe_k10
  | 11 => oe_k11
  | 12 => oe_k12
  | 13 => oe_k13
  | 14 => oe_k14
  | 15 => oe_k15
  | 16 => oe_k16
  | 17 => oe_k17
  | 18 => oe_k18
  | 19 => oe_k19
  | 20 => oe_k20
  | 21 => oe_k21
  | 22 => oe_k22
  | 23 => oe_k23
  | 24 => oe_k24
  | 25 => oe_k25
  | 26 => oe_k26
  | 27 => oe_k27
  | 28 => oe_k28
  | 29 => oe_k29
  | 30 => oe_k30
  | 31 => oe_k31
  | 32 => oe_k32
  | 33 => oe_k33
  | 34 => oe_k34
  | 35 => oe_k35
  | 36 => oe_k36
  | 37 => oe_k37
  | 38 => oe_k38
  | 39 => oe_k39
  | 40 => oe_k40
  | 41 => oe_k41
  | 42 => oe_k42
  | 43 => oe_k43
  | 44 => oe_k44
  | 45 => oe_k45
  | 46 => oe_k46
  | 47 => oe_k47
  | 48 => oe_k48
  | 49 => oe_k49
  | 50 => oe_k50
  | 51 => oe_k51
  | 52 => oe_k52
  | 53 => oe_k53
  | 54 => oe_k54
  | 55 => oe_k55
  | 56 => oe_k56
  | 57 => oe_k57
  | 58 => oe_k58
  | 59 => oe_k59
  | 60 => oe_k60
  | 61 => oe_k61
  | 62 => oe_k62
  | 63 => oe_k63
  | 64 => oe_k64
  | 65 => oe_k65
  | 66 => oe_k66
  | 67 => oe_k67
  | 68 => oe_k68
  | 69 => oe_k69
  | 70 => oe_k70
  | 71 => oe_k71
  | 72 => oe_k72
  | 73 => oe_k73
  | 74 => oe_k74
  | 75 => oe_k75
  | 76 => oe_k76
  | 77 => oe_k77
  | 78 => oe_k78
  | 79 => oe_k79
  | 80 => oe_k80
  | 81 => oe_k81
  | 82 => oe_k82
  | 83 => oe_k83
  | 84 => oe_k84
  | 85 => oe_k85
  | 86 => oe_k86
  | 87 => oe_k87
  | 88 => oe_k88
  | 89 => oe_k89
  | 90 => oe_k90
  | 91 => oe_k91
  | 92 => oe_k92
  | 93 => oe_k93
  | 94 => oe_k94
  | 95 => oe_k95
  | 96 => oe_k96
  | 97 => oe_k97
  | 98 => oe_k98
  | 99 => oe_k99
  | 100 => oe_k100
  | 101 => oe_k101
  | 102 => oe_k102
  | 103 => oe_k103
  | 104 => oe_k104
  | 105 => oe_k105
  | 106 => oe_k106
  | 107 => oe_k107
  | 108 => oe_k108
  | 109 => oe_k109
  | 110 => oe_k110
  | 111 => oe_k111
  | 112 => oe_k112
  | 113 => oe_k113
  | 114 => oe_k114
  | 115 => oe_k115
  | 116 => oe_k116
  | 117 => oe_k117
  | 118 => oe_k118
  | 119 => oe_k119
  | 120 => oe_k120
  | 121 => oe_k121
  | 122 => oe_k122
  | 123 => oe_k123
  | 124 => oe_k124
  | 125 => oe_k125
  | 126 => oe_k126
  | 127 => oe_k127
  | 128 => oe_k128
  | 129 => oe_k129
  | 130 => oe_k130
  | j + 131 => by rw [oe_code_out _ (by show 131 ≤ j + 131; omega)]; rfl
theorem oe_dec (j pc : Nat) (i : Jvm.ClassFile.Instr) (len : Nat) (h : oe_find (oe_code j) pc = some (i, len)) : decode (oe_by j) pc = .ok (oe_rel (oe_cpi j pc) pc i, len) ∧ oe_sta j pc i len = true := by
  have h1 := List.all_eq_true.mp (oe_kA j) _ (oe_find_mem h)
  unfold oe_chk at h1
  rw [Bool.and_eq_true, decide_eq_true_eq] at h1
  exact h1
