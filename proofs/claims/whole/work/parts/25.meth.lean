/-! facts of each method's table (written by wip/gen/part25.py) -/
theorem c13 (pc : Nat) {x : JI} (h : cd_13.lookup pc = some x) : jcode 13 pc = some x := h
theorem hh13 : jhh 13 = [] := rfl
theorem js13 : unt 10 = jcls 13 := by decide +kernel
theorem c14 (pc : Nat) {x : JI} (h : cd_14.lookup pc = some x) : jcode 14 pc = some x := h
theorem hh14 : jhh 14 = [] := rfl
theorem js14 : unt 3 = jcls 14 := by decide +kernel
theorem c15 (pc : Nat) {x : JI} (h : cd_15.lookup pc = some x) : jcode 15 pc = some x := h
theorem hh15 : jhh 15 = [] := rfl
theorem js15 : unt 10 = jcls 15 := by decide +kernel
theorem c16 (pc : Nat) {x : JI} (h : cd_16.lookup pc = some x) : jcode 16 pc = some x := h
theorem hh16 : jhh 16 = [] := rfl
theorem js16 : unt 10 = jcls 16 := by decide +kernel
theorem c17 (pc : Nat) {x : JI} (h : cd_17.lookup pc = some x) : jcode 17 pc = some x := h
theorem hh17 : jhh 17 = [] := rfl
theorem js17 : unt 10 = jcls 17 := by decide +kernel
theorem c18 (pc : Nat) {x : JI} (h : cd_18.lookup pc = some x) : jcode 18 pc = some x := h
theorem hh18 : jhh 18 = [] := rfl
theorem js18 : unt 10 = jcls 18 := by decide +kernel
theorem c19 (pc : Nat) {x : JI} (h : cd_19.lookup pc = some x) : jcode 19 pc = some x := h
theorem c20 (pc : Nat) {x : JI} (h : cd_20.lookup pc = some x) : jcode 20 pc = some x := h
theorem hh20 : jhh 20 = [] := rfl
theorem js20 : unt 10 = jcls 20 := by decide +kernel
theorem c21 (pc : Nat) {x : JI} (h : cd_21.lookup pc = some x) : jcode 21 pc = some x := h
theorem hh21 : jhh 21 = [] := rfl
theorem js21 : unt 3 = jcls 21 := by decide +kernel
theorem c22 (pc : Nat) {x : JI} (h : cd_22.lookup pc = some x) : jcode 22 pc = some x := h
theorem hh22 : jhh 22 = [] := rfl
theorem js22 : unt 7 = jcls 22 := by decide +kernel
theorem c23 (pc : Nat) {x : JI} (h : cd_23.lookup pc = some x) : jcode 23 pc = some x := h
theorem hh23 : jhh 23 = [] := rfl
theorem js23 : unt 3 = jcls 23 := by decide +kernel
theorem c24 (pc : Nat) {x : JI} (h : cd_24.lookup pc = some x) : jcode 24 pc = some x := h
theorem hh24 : jhh 24 = [] := rfl
theorem js24 : unt 3 = jcls 24 := by decide +kernel
theorem c25 (pc : Nat) {x : JI} (h : cd_25.lookup pc = some x) : jcode 25 pc = some x := h
theorem hh25 : jhh 25 = [] := rfl
theorem js25 : unt 3 = jcls 25 := by decide +kernel
theorem c26 (pc : Nat) {x : JI} (h : cd_26.lookup pc = some x) : jcode 26 pc = some x := h
theorem hh26 : jhh 26 = [] := rfl
theorem js26 : unt 3 = jcls 26 := by decide +kernel
theorem c34 (pc : Nat) {x : JI} (h : cd_34.lookup pc = some x) : jcode 34 pc = some x := h
theorem hh34 : jhh 34 = [] := rfl
theorem js34 : unt 3 = jcls 34 := by decide +kernel
theorem c35 (pc : Nat) {x : JI} (h : cd_35.lookup pc = some x) : jcode 35 pc = some x := h
theorem hh35 : jhh 35 = [] := rfl
theorem js35 : unt 3 = jcls 35 := by decide +kernel
theorem c36 (pc : Nat) {x : JI} (h : cd_36.lookup pc = some x) : jcode 36 pc = some x := h
theorem hh36 : jhh 36 = [] := rfl
theorem js36 : unt 3 = jcls 36 := by decide +kernel
theorem c37 (pc : Nat) {x : JI} (h : cd_37.lookup pc = some x) : jcode 37 pc = some x := h
theorem hh37 : jhh 37 = [] := rfl
theorem js37 : unt 3 = jcls 37 := by decide +kernel
theorem c38 (pc : Nat) {x : JI} (h : cd_38.lookup pc = some x) : jcode 38 pc = some x := h
theorem hh38 : jhh 38 = [] := rfl
theorem js38 : unt 6 = jcls 38 := by decide +kernel
theorem c39 (pc : Nat) {x : JI} (h : cd_39.lookup pc = some x) : jcode 39 pc = some x := h
theorem hh39 : jhh 39 = [] := rfl
theorem js39 : unt 6 = jcls 39 := by decide +kernel
theorem c40 (pc : Nat) {x : JI} (h : cd_40.lookup pc = some x) : jcode 40 pc = some x := h
theorem hh40 : jhh 40 = [] := rfl
theorem js40 : unt 6 = jcls 40 := by decide +kernel
theorem c41 (pc : Nat) {x : JI} (h : cd_41.lookup pc = some x) : jcode 41 pc = some x := h
theorem hh41 : jhh 41 = [] := rfl
theorem js41 : unt 6 = jcls 41 := by decide +kernel
theorem c42 (pc : Nat) {x : JI} (h : cd_42.lookup pc = some x) : jcode 42 pc = some x := h
theorem hh42 : jhh 42 = [] := rfl
theorem js42 : unt 3 = jcls 42 := by decide +kernel
theorem c43 (pc : Nat) {x : JI} (h : cd_43.lookup pc = some x) : jcode 43 pc = some x := h
theorem hh43 : jhh 43 = [] := rfl
theorem js43 : unt 3 = jcls 43 := by decide +kernel
theorem c44 (pc : Nat) {x : JI} (h : cd_44.lookup pc = some x) : jcode 44 pc = some x := h
theorem hh44 : jhh 44 = [] := rfl
theorem js44 : unt 6 = jcls 44 := by decide +kernel
theorem c45 (pc : Nat) {x : JI} (h : cd_45.lookup pc = some x) : jcode 45 pc = some x := h
theorem hh45 : jhh 45 = [] := rfl
theorem js45 : unt 3 = jcls 45 := by decide +kernel
theorem c46 (pc : Nat) {x : JI} (h : cd_46.lookup pc = some x) : jcode 46 pc = some x := h
theorem hh46 : jhh 46 = [] := rfl
theorem js46 : unt 7 = jcls 46 := by decide +kernel
theorem c47 (pc : Nat) {x : JI} (h : cd_47.lookup pc = some x) : jcode 47 pc = some x := h
theorem hh47 : jhh 47 = [] := rfl
theorem js47 : unt 3 = jcls 47 := by decide +kernel
theorem c48 (pc : Nat) {x : JI} (h : cd_48.lookup pc = some x) : jcode 48 pc = some x := h
theorem hh48 : jhh 48 = [] := rfl
theorem js48 : unt 8 = jcls 48 := by decide +kernel
theorem c49 (pc : Nat) {x : JI} (h : cd_49.lookup pc = some x) : jcode 49 pc = some x := h
theorem hh49 : jhh 49 = [] := rfl
theorem js49 : unt 3 = jcls 49 := by decide +kernel
theorem c50 (pc : Nat) {x : JI} (h : cd_50.lookup pc = some x) : jcode 50 pc = some x := h
theorem hh50 : jhh 50 = [] := rfl
theorem js50 : unt 3 = jcls 50 := by decide +kernel
theorem c51 (pc : Nat) {x : JI} (h : cd_51.lookup pc = some x) : jcode 51 pc = some x := h
theorem hh51 : jhh 51 = [] := rfl
theorem c52 (pc : Nat) {x : JI} (h : cd_52.lookup pc = some x) : jcode 52 pc = some x := h
theorem hh52 : jhh 52 = [] := rfl
theorem js52 : unt 8 = jcls 52 := by decide +kernel
theorem c53 (pc : Nat) {x : JI} (h : cd_53.lookup pc = some x) : jcode 53 pc = some x := h
theorem hh53 : jhh 53 = [] := rfl
theorem js53 : unt 8 = jcls 53 := by decide +kernel
theorem c54 (pc : Nat) {x : JI} (h : cd_54.lookup pc = some x) : jcode 54 pc = some x := h
theorem hh54 : jhh 54 = [] := rfl
theorem js54 : unt 3 = jcls 54 := by decide +kernel
theorem c55 (pc : Nat) {x : JI} (h : cd_55.lookup pc = some x) : jcode 55 pc = some x := h
theorem hh55 : jhh 55 = [] := rfl
theorem js55 : unt 6 = jcls 55 := by decide +kernel
theorem c56 (pc : Nat) {x : JI} (h : cd_56.lookup pc = some x) : jcode 56 pc = some x := h
theorem hh56 : jhh 56 = [] := rfl
theorem c57 (pc : Nat) {x : JI} (h : cd_57.lookup pc = some x) : jcode 57 pc = some x := h
theorem hh57 : jhh 57 = [] := rfl
theorem js57 : unt 8 = jcls 57 := by decide +kernel
theorem c58 (pc : Nat) {x : JI} (h : cd_58.lookup pc = some x) : jcode 58 pc = some x := h
theorem hh58 : jhh 58 = [] := rfl
theorem c59 (pc : Nat) {x : JI} (h : cd_59.lookup pc = some x) : jcode 59 pc = some x := h
theorem hh59 : jhh 59 = [] := rfl
theorem js59 : unt 3 = jcls 59 := by decide +kernel
theorem c60 (pc : Nat) {x : JI} (h : cd_60.lookup pc = some x) : jcode 60 pc = some x := h
theorem hh60 : jhh 60 = [] := rfl
theorem js60 : unt 3 = jcls 60 := by decide +kernel
theorem c61 (pc : Nat) {x : JI} (h : cd_61.lookup pc = some x) : jcode 61 pc = some x := h
theorem hh61 : jhh 61 = [] := rfl
theorem js61 : unt 7 = jcls 61 := by decide +kernel
theorem c62 (pc : Nat) {x : JI} (h : cd_62.lookup pc = some x) : jcode 62 pc = some x := h
theorem hh62 : jhh 62 = [] := rfl
theorem js62 : unt 3 = jcls 62 := by decide +kernel
theorem c63 (pc : Nat) {x : JI} (h : cd_63.lookup pc = some x) : jcode 63 pc = some x := h
theorem hh63 : jhh 63 = [] := rfl
theorem js63 : unt 7 = jcls 63 := by decide +kernel
theorem c64 (pc : Nat) {x : JI} (h : cd_64.lookup pc = some x) : jcode 64 pc = some x := h
theorem hh64 : jhh 64 = [] := rfl
theorem js64 : unt 8 = jcls 64 := by decide +kernel
theorem c65 (pc : Nat) {x : JI} (h : cd_65.lookup pc = some x) : jcode 65 pc = some x := h
theorem hh65 : jhh 65 = [] := rfl
theorem js65 : unt 3 = jcls 65 := by decide +kernel
theorem c66 (pc : Nat) {x : JI} (h : cd_66.lookup pc = some x) : jcode 66 pc = some x := h
theorem hh66 : jhh 66 = [] := rfl
theorem js66 : unt 5 = jcls 66 := by decide +kernel
theorem c67 (pc : Nat) {x : JI} (h : cd_67.lookup pc = some x) : jcode 67 pc = some x := h
theorem hh67 : jhh 67 = [] := rfl
theorem js67 : unt 5 = jcls 67 := by decide +kernel
theorem c68 (pc : Nat) {x : JI} (h : cd_68.lookup pc = some x) : jcode 68 pc = some x := h
theorem hh68 : jhh 68 = [] := rfl
theorem js68 : unt 3 = jcls 68 := by decide +kernel
theorem c69 (pc : Nat) {x : JI} (h : cd_69.lookup pc = some x) : jcode 69 pc = some x := h
theorem hh69 : jhh 69 = [] := rfl
theorem js69 : unt 4 = jcls 69 := by decide +kernel
theorem c70 (pc : Nat) {x : JI} (h : cd_70.lookup pc = some x) : jcode 70 pc = some x := h
theorem hh70 : jhh 70 = [] := rfl
theorem js70 : unt 4 = jcls 70 := by decide +kernel
theorem c71 (pc : Nat) {x : JI} (h : cd_71.lookup pc = some x) : jcode 71 pc = some x := h
theorem hh71 : jhh 71 = [] := rfl
theorem js71 : unt 4 = jcls 71 := by decide +kernel
theorem c72 (pc : Nat) {x : JI} (h : cd_72.lookup pc = some x) : jcode 72 pc = some x := h
theorem hh72 : jhh 72 = [] := rfl
theorem js72 : unt 4 = jcls 72 := by decide +kernel
theorem c73 (pc : Nat) {x : JI} (h : cd_73.lookup pc = some x) : jcode 73 pc = some x := h
theorem hh73 : jhh 73 = [] := rfl
theorem c74 (pc : Nat) {x : JI} (h : cd_74.lookup pc = some x) : jcode 74 pc = some x := h
theorem hh74 : jhh 74 = [] := rfl
theorem js74 : unt 8 = jcls 74 := by decide +kernel
theorem c75 (pc : Nat) {x : JI} (h : cd_75.lookup pc = some x) : jcode 75 pc = some x := h
theorem hh75 : jhh 75 = [] := rfl
theorem js75 : unt 8 = jcls 75 := by decide +kernel
theorem c76 (pc : Nat) {x : JI} (h : cd_76.lookup pc = some x) : jcode 76 pc = some x := h
theorem hh76 : jhh 76 = [] := rfl
theorem js76 : unt 4 = jcls 76 := by decide +kernel
theorem c77 (pc : Nat) {x : JI} (h : cd_77.lookup pc = some x) : jcode 77 pc = some x := h
theorem hh77 : jhh 77 = [] := rfl
theorem js77 : unt 4 = jcls 77 := by decide +kernel
theorem c78 (pc : Nat) {x : JI} (h : cd_78.lookup pc = some x) : jcode 78 pc = some x := h
theorem hh78 : jhh 78 = [] := rfl
theorem js78 : unt 8 = jcls 78 := by decide +kernel
theorem c80 (pc : Nat) {x : JI} (h : cd_80.lookup pc = some x) : jcode 80 pc = some x := h
theorem hh80 : jhh 80 = [] := rfl
theorem js80 : unt 6 = jcls 80 := by decide +kernel
theorem c81 (pc : Nat) {x : JI} (h : cd_81.lookup pc = some x) : jcode 81 pc = some x := h
theorem hh81 : jhh 81 = [] := rfl
theorem js81 : unt 10 = jcls 81 := by decide +kernel
theorem c82 (pc : Nat) {x : JI} (h : cd_82.lookup pc = some x) : jcode 82 pc = some x := h
theorem hh82 : jhh 82 = [] := rfl
theorem js82 : unt 7 = jcls 82 := by decide +kernel
theorem c83 (pc : Nat) {x : JI} (h : cd_83.lookup pc = some x) : jcode 83 pc = some x := h
theorem hh83 : jhh 83 = [] := rfl
theorem js83 : unt 5 = jcls 83 := by decide +kernel
theorem c84 (pc : Nat) {x : JI} (h : cd_84.lookup pc = some x) : jcode 84 pc = some x := h
theorem c85 (pc : Nat) {x : JI} (h : cd_85.lookup pc = some x) : jcode 85 pc = some x := h
theorem hh85 : jhh 85 = [] := rfl
theorem js85 : unt 10 = jcls 85 := by decide +kernel
theorem c86 (pc : Nat) {x : JI} (h : cd_86.lookup pc = some x) : jcode 86 pc = some x := h
theorem hh86 : jhh 86 = [] := rfl
theorem js86 : unt 10 = jcls 86 := by decide +kernel
theorem c87 (pc : Nat) {x : JI} (h : cd_87.lookup pc = some x) : jcode 87 pc = some x := h
theorem c88 (pc : Nat) {x : JI} (h : cd_88.lookup pc = some x) : jcode 88 pc = some x := h
theorem hh88 : jhh 88 = [] := rfl
theorem js88 : unt 10 = jcls 88 := by decide +kernel
theorem c89 (pc : Nat) {x : JI} (h : cd_89.lookup pc = some x) : jcode 89 pc = some x := h
theorem hh89 : jhh 89 = [] := rfl
theorem js89 : unt 10 = jcls 89 := by decide +kernel
theorem c90 (pc : Nat) {x : JI} (h : cd_90.lookup pc = some x) : jcode 90 pc = some x := h
theorem c91 (pc : Nat) {x : JI} (h : cd_91.lookup pc = some x) : jcode 91 pc = some x := h
theorem hh91 : jhh 91 = [] := rfl
theorem js91 : unt 10 = jcls 91 := by decide +kernel
theorem c92 (pc : Nat) {x : JI} (h : cd_92.lookup pc = some x) : jcode 92 pc = some x := h
theorem c93 (pc : Nat) {x : JI} (h : cd_93.lookup pc = some x) : jcode 93 pc = some x := h
theorem hh93 : jhh 93 = [] := rfl
theorem js93 : unt 10 = jcls 93 := by decide +kernel
theorem c94 (pc : Nat) {x : JI} (h : cd_94.lookup pc = some x) : jcode 94 pc = some x := h
theorem c95 (pc : Nat) {x : JI} (h : cd_95.lookup pc = some x) : jcode 95 pc = some x := h
theorem hh95 : jhh 95 = [] := rfl
theorem js95 : unt 10 = jcls 95 := by decide +kernel
theorem c96 (pc : Nat) {x : JI} (h : cd_96.lookup pc = some x) : jcode 96 pc = some x := h
theorem c97 (pc : Nat) {x : JI} (h : cd_97.lookup pc = some x) : jcode 97 pc = some x := h
theorem hh97 : jhh 97 = [] := rfl
theorem js97 : unt 10 = jcls 97 := by decide +kernel
theorem c98 (pc : Nat) {x : JI} (h : cd_98.lookup pc = some x) : jcode 98 pc = some x := h
theorem hh98 : jhh 98 = [] := rfl
theorem js98 : unt 10 = jcls 98 := by decide +kernel
theorem c99 (pc : Nat) {x : JI} (h : cd_99.lookup pc = some x) : jcode 99 pc = some x := h
theorem c100 (pc : Nat) {x : JI} (h : cd_100.lookup pc = some x) : jcode 100 pc = some x := h
theorem hh100 : jhh 100 = [] := rfl
theorem js100 : unt 10 = jcls 100 := by decide +kernel
theorem c101 (pc : Nat) {x : JI} (h : cd_101.lookup pc = some x) : jcode 101 pc = some x := h
theorem c102 (pc : Nat) {x : JI} (h : cd_102.lookup pc = some x) : jcode 102 pc = some x := h
theorem hh102 : jhh 102 = [] := rfl
theorem js102 : unt 10 = jcls 102 := by decide +kernel
theorem c103 (pc : Nat) {x : JI} (h : cd_103.lookup pc = some x) : jcode 103 pc = some x := h
theorem c104 (pc : Nat) {x : JI} (h : cd_104.lookup pc = some x) : jcode 104 pc = some x := h
theorem hh104 : jhh 104 = [] := rfl
theorem js104 : unt 10 = jcls 104 := by decide +kernel
theorem c105 (pc : Nat) {x : JI} (h : cd_105.lookup pc = some x) : jcode 105 pc = some x := h
theorem c106 (pc : Nat) {x : JI} (h : cd_106.lookup pc = some x) : jcode 106 pc = some x := h
theorem hh106 : jhh 106 = [] := rfl
theorem js106 : unt 10 = jcls 106 := by decide +kernel
theorem c107 (pc : Nat) {x : JI} (h : cd_107.lookup pc = some x) : jcode 107 pc = some x := h
theorem hh107 : jhh 107 = [] := rfl
theorem js107 : unt 5 = jcls 107 := by decide +kernel
theorem c108 (pc : Nat) {x : JI} (h : cd_108.lookup pc = some x) : jcode 108 pc = some x := h
theorem c109 (pc : Nat) {x : JI} (h : cd_109.lookup pc = some x) : jcode 109 pc = some x := h
theorem hh109 : jhh 109 = [] := rfl
theorem js109 : unt 10 = jcls 109 := by decide +kernel
theorem c110 (pc : Nat) {x : JI} (h : cd_110.lookup pc = some x) : jcode 110 pc = some x := h
theorem c111 (pc : Nat) {x : JI} (h : cd_111.lookup pc = some x) : jcode 111 pc = some x := h
theorem hh111 : jhh 111 = [] := rfl
theorem js111 : unt 10 = jcls 111 := by decide +kernel
theorem c112 (pc : Nat) {x : JI} (h : cd_112.lookup pc = some x) : jcode 112 pc = some x := h
theorem c113 (pc : Nat) {x : JI} (h : cd_113.lookup pc = some x) : jcode 113 pc = some x := h
theorem hh113 : jhh 113 = [] := rfl
theorem js113 : unt 10 = jcls 113 := by decide +kernel
theorem c114 (pc : Nat) {x : JI} (h : cd_114.lookup pc = some x) : jcode 114 pc = some x := h
theorem hh114 : jhh 114 = [] := rfl
theorem js114 : unt 10 = jcls 114 := by decide +kernel
theorem c115 (pc : Nat) {x : JI} (h : cd_115.lookup pc = some x) : jcode 115 pc = some x := h
theorem c116 (pc : Nat) {x : JI} (h : cd_116.lookup pc = some x) : jcode 116 pc = some x := h
theorem hh116 : jhh 116 = [] := rfl
theorem js116 : unt 10 = jcls 116 := by decide +kernel
theorem c117 (pc : Nat) {x : JI} (h : cd_117.lookup pc = some x) : jcode 117 pc = some x := h
theorem hh117 : jhh 117 = [] := rfl
theorem js117 : unt 10 = jcls 117 := by decide +kernel
theorem c118 (pc : Nat) {x : JI} (h : cd_118.lookup pc = some x) : jcode 118 pc = some x := h
theorem c119 (pc : Nat) {x : JI} (h : cd_119.lookup pc = some x) : jcode 119 pc = some x := h
theorem hh119 : jhh 119 = [] := rfl
theorem js119 : unt 10 = jcls 119 := by decide +kernel
theorem c120 (pc : Nat) {x : JI} (h : cd_120.lookup pc = some x) : jcode 120 pc = some x := h
theorem hh120 : jhh 120 = [] := rfl
theorem js120 : unt 10 = jcls 120 := by decide +kernel
theorem c121 (pc : Nat) {x : JI} (h : cd_121.lookup pc = some x) : jcode 121 pc = some x := h
theorem hh121 : jhh 121 = [] := rfl
theorem c122 (pc : Nat) {x : JI} (h : cd_122.lookup pc = some x) : jcode 122 pc = some x := h
theorem c123 (pc : Nat) {x : JI} (h : cd_123.lookup pc = some x) : jcode 123 pc = some x := h
theorem hh123 : jhh 123 = [] := rfl
theorem js123 : unt 10 = jcls 123 := by decide +kernel
theorem c124 (pc : Nat) {x : JI} (h : cd_124.lookup pc = some x) : jcode 124 pc = some x := h
theorem hh124 : jhh 124 = [] := rfl
theorem c125 (pc : Nat) {x : JI} (h : cd_125.lookup pc = some x) : jcode 125 pc = some x := h
theorem c126 (pc : Nat) {x : JI} (h : cd_126.lookup pc = some x) : jcode 126 pc = some x := h
theorem hh126 : jhh 126 = [] := rfl
theorem js126 : unt 10 = jcls 126 := by decide +kernel
theorem c127 (pc : Nat) {x : JI} (h : cd_127.lookup pc = some x) : jcode 127 pc = some x := h
theorem c128 (pc : Nat) {x : JI} (h : cd_128.lookup pc = some x) : jcode 128 pc = some x := h
theorem hh128 : jhh 128 = [] := rfl
theorem js128 : unt 10 = jcls 128 := by decide +kernel
theorem c129 (pc : Nat) {x : JI} (h : cd_129.lookup pc = some x) : jcode 129 pc = some x := h
theorem c130 (pc : Nat) {x : JI} (h : cd_130.lookup pc = some x) : jcode 130 pc = some x := h
theorem hh130 : jhh 130 = [] := rfl
theorem js130 : unt 10 = jcls 130 := by decide +kernel
theorem c131 (pc : Nat) {x : JI} (h : cd_131.lookup pc = some x) : jcode 131 pc = some x := h
theorem hh131 : jhh 131 = [] := rfl
theorem js131 : unt 8 = jcls 131 := by decide +kernel
theorem c132 (pc : Nat) {x : JI} (h : cd_132.lookup pc = some x) : jcode 132 pc = some x := h
theorem c133 (pc : Nat) {x : JI} (h : cd_133.lookup pc = some x) : jcode 133 pc = some x := h
theorem hh133 : jhh 133 = [] := rfl
theorem js133 : unt 10 = jcls 133 := by decide +kernel
theorem c134 (pc : Nat) {x : JI} (h : cd_134.lookup pc = some x) : jcode 134 pc = some x := h
theorem c135 (pc : Nat) {x : JI} (h : cd_135.lookup pc = some x) : jcode 135 pc = some x := h
theorem hh135 : jhh 135 = [] := rfl
theorem js135 : unt 10 = jcls 135 := by decide +kernel
theorem c136 (pc : Nat) {x : JI} (h : cd_136.lookup pc = some x) : jcode 136 pc = some x := h
theorem c137 (pc : Nat) {x : JI} (h : cd_137.lookup pc = some x) : jcode 137 pc = some x := h
theorem hh137 : jhh 137 = [] := rfl
theorem js137 : unt 10 = jcls 137 := by decide +kernel
theorem c138 (pc : Nat) {x : JI} (h : cd_138.lookup pc = some x) : jcode 138 pc = some x := h
theorem c139 (pc : Nat) {x : JI} (h : cd_139.lookup pc = some x) : jcode 139 pc = some x := h
theorem hh139 : jhh 139 = [] := rfl
theorem js139 : unt 10 = jcls 139 := by decide +kernel
theorem c140 (pc : Nat) {x : JI} (h : cd_140.lookup pc = some x) : jcode 140 pc = some x := h
theorem hh140 : jhh 140 = [] := rfl
theorem js140 : unt 4 = jcls 140 := by decide +kernel
theorem c141 (pc : Nat) {x : JI} (h : cd_141.lookup pc = some x) : jcode 141 pc = some x := h
theorem c142 (pc : Nat) {x : JI} (h : cd_142.lookup pc = some x) : jcode 142 pc = some x := h
theorem hh142 : jhh 142 = [] := rfl
theorem js142 : unt 10 = jcls 142 := by decide +kernel
theorem c143 (pc : Nat) {x : JI} (h : cd_143.lookup pc = some x) : jcode 143 pc = some x := h
theorem c144 (pc : Nat) {x : JI} (h : cd_144.lookup pc = some x) : jcode 144 pc = some x := h
theorem hh144 : jhh 144 = [] := rfl
theorem js144 : unt 10 = jcls 144 := by decide +kernel
theorem c145 (pc : Nat) {x : JI} (h : cd_145.lookup pc = some x) : jcode 145 pc = some x := h
theorem c146 (pc : Nat) {x : JI} (h : cd_146.lookup pc = some x) : jcode 146 pc = some x := h
theorem hh146 : jhh 146 = [] := rfl
theorem js146 : unt 10 = jcls 146 := by decide +kernel
theorem c147 (pc : Nat) {x : JI} (h : cd_147.lookup pc = some x) : jcode 147 pc = some x := h
theorem c148 (pc : Nat) {x : JI} (h : cd_148.lookup pc = some x) : jcode 148 pc = some x := h
theorem hh148 : jhh 148 = [] := rfl
theorem js148 : unt 10 = jcls 148 := by decide +kernel
theorem c149 (pc : Nat) {x : JI} (h : cd_149.lookup pc = some x) : jcode 149 pc = some x := h
theorem c150 (pc : Nat) {x : JI} (h : cd_150.lookup pc = some x) : jcode 150 pc = some x := h
theorem hh150 : jhh 150 = [] := rfl
theorem js150 : unt 10 = jcls 150 := by decide +kernel
theorem c151 (pc : Nat) {x : JI} (h : cd_151.lookup pc = some x) : jcode 151 pc = some x := h
theorem hh151 : jhh 151 = [] := rfl
theorem js151 : unt 4 = jcls 151 := by decide +kernel
theorem c152 (pc : Nat) {x : JI} (h : cd_152.lookup pc = some x) : jcode 152 pc = some x := h
theorem c153 (pc : Nat) {x : JI} (h : cd_153.lookup pc = some x) : jcode 153 pc = some x := h
theorem hh153 : jhh 153 = [] := rfl
theorem js153 : unt 10 = jcls 153 := by decide +kernel
theorem c154 (pc : Nat) {x : JI} (h : cd_154.lookup pc = some x) : jcode 154 pc = some x := h
theorem c155 (pc : Nat) {x : JI} (h : cd_155.lookup pc = some x) : jcode 155 pc = some x := h
theorem hh155 : jhh 155 = [] := rfl
theorem js155 : unt 10 = jcls 155 := by decide +kernel
theorem c156 (pc : Nat) {x : JI} (h : cd_156.lookup pc = some x) : jcode 156 pc = some x := h
theorem c157 (pc : Nat) {x : JI} (h : cd_157.lookup pc = some x) : jcode 157 pc = some x := h
theorem hh157 : jhh 157 = [] := rfl
theorem js157 : unt 10 = jcls 157 := by decide +kernel
theorem c158 (pc : Nat) {x : JI} (h : cd_158.lookup pc = some x) : jcode 158 pc = some x := h
theorem hh158 : jhh 158 = [] := rfl
theorem js158 : unt 4 = jcls 158 := by decide +kernel
theorem c159 (pc : Nat) {x : JI} (h : cd_159.lookup pc = some x) : jcode 159 pc = some x := h
theorem c160 (pc : Nat) {x : JI} (h : cd_160.lookup pc = some x) : jcode 160 pc = some x := h
theorem hh160 : jhh 160 = [] := rfl
theorem js160 : unt 10 = jcls 160 := by decide +kernel
theorem c161 (pc : Nat) {x : JI} (h : cd_161.lookup pc = some x) : jcode 161 pc = some x := h
theorem hh161 : jhh 161 = [] := rfl
theorem js161 : unt 9 = jcls 161 := by decide +kernel
theorem c162 (pc : Nat) {x : JI} (h : cd_162.lookup pc = some x) : jcode 162 pc = some x := h
theorem hh162 : jhh 162 = [] := rfl
theorem js162 : unt 9 = jcls 162 := by decide +kernel
theorem c163 (pc : Nat) {x : JI} (h : cd_163.lookup pc = some x) : jcode 163 pc = some x := h
theorem hh163 : jhh 163 = [] := rfl
theorem js163 : unt 9 = jcls 163 := by decide +kernel
theorem c164 (pc : Nat) {x : JI} (h : cd_164.lookup pc = some x) : jcode 164 pc = some x := h
theorem hh164 : jhh 164 = [] := rfl
theorem js164 : unt 9 = jcls 164 := by decide +kernel
theorem c165 (pc : Nat) {x : JI} (h : cd_165.lookup pc = some x) : jcode 165 pc = some x := h
theorem hh165 : jhh 165 = [] := rfl
theorem js165 : unt 9 = jcls 165 := by decide +kernel
theorem c166 (pc : Nat) {x : JI} (h : cd_166.lookup pc = some x) : jcode 166 pc = some x := h
theorem hh166 : jhh 166 = [] := rfl
theorem js166 : unt 9 = jcls 166 := by decide +kernel
theorem c167 (pc : Nat) {x : JI} (h : cd_167.lookup pc = some x) : jcode 167 pc = some x := h
theorem hh167 : jhh 167 = [] := rfl
theorem js167 : unt 9 = jcls 167 := by decide +kernel
theorem c168 (pc : Nat) {x : JI} (h : cd_168.lookup pc = some x) : jcode 168 pc = some x := h
theorem hh168 : jhh 168 = [] := rfl
theorem js168 : unt 9 = jcls 168 := by decide +kernel
theorem c169 (pc : Nat) {x : JI} (h : cd_169.lookup pc = some x) : jcode 169 pc = some x := h
theorem hh169 : jhh 169 = [] := rfl
theorem js169 : unt 9 = jcls 169 := by decide +kernel
theorem c170 (pc : Nat) {x : JI} (h : cd_170.lookup pc = some x) : jcode 170 pc = some x := h
theorem hh170 : jhh 170 = [] := rfl
theorem js170 : unt 9 = jcls 170 := by decide +kernel
theorem c171 (pc : Nat) {x : JI} (h : cd_171.lookup pc = some x) : jcode 171 pc = some x := h
theorem hh171 : jhh 171 = [] := rfl
theorem js171 : unt 9 = jcls 171 := by decide +kernel
theorem c172 (pc : Nat) {x : JI} (h : cd_172.lookup pc = some x) : jcode 172 pc = some x := h
theorem hh172 : jhh 172 = [] := rfl
theorem js172 : unt 9 = jcls 172 := by decide +kernel
theorem c173 (pc : Nat) {x : JI} (h : cd_173.lookup pc = some x) : jcode 173 pc = some x := h
theorem hh173 : jhh 173 = [] := rfl
theorem js173 : unt 9 = jcls 173 := by decide +kernel
theorem c174 (pc : Nat) {x : JI} (h : cd_174.lookup pc = some x) : jcode 174 pc = some x := h
theorem hh174 : jhh 174 = [] := rfl
theorem js174 : unt 9 = jcls 174 := by decide +kernel
theorem c175 (pc : Nat) {x : JI} (h : cd_175.lookup pc = some x) : jcode 175 pc = some x := h
theorem hh175 : jhh 175 = [] := rfl
theorem js175 : unt 9 = jcls 175 := by decide +kernel
theorem c176 (pc : Nat) {x : JI} (h : cd_176.lookup pc = some x) : jcode 176 pc = some x := h
theorem hh176 : jhh 176 = [] := rfl
theorem js176 : unt 9 = jcls 176 := by decide +kernel
theorem c177 (pc : Nat) {x : JI} (h : cd_177.lookup pc = some x) : jcode 177 pc = some x := h
theorem hh177 : jhh 177 = [] := rfl
theorem js177 : unt 9 = jcls 177 := by decide +kernel
theorem c178 (pc : Nat) {x : JI} (h : cd_178.lookup pc = some x) : jcode 178 pc = some x := h
theorem c179 (pc : Nat) {x : JI} (h : cd_179.lookup pc = some x) : jcode 179 pc = some x := h
theorem hh179 : jhh 179 = [] := rfl
theorem js179 : unt 10 = jcls 179 := by decide +kernel
theorem c180 (pc : Nat) {x : JI} (h : cd_180.lookup pc = some x) : jcode 180 pc = some x := h
theorem hh180 : jhh 180 = [] := rfl
theorem js180 : unt 9 = jcls 180 := by decide +kernel
theorem c181 (pc : Nat) {x : JI} (h : cd_181.lookup pc = some x) : jcode 181 pc = some x := h
theorem hh181 : jhh 181 = [] := rfl
theorem js181 : unt 9 = jcls 181 := by decide +kernel
theorem c182 (pc : Nat) {x : JI} (h : cd_182.lookup pc = some x) : jcode 182 pc = some x := h
theorem c183 (pc : Nat) {x : JI} (h : cd_183.lookup pc = some x) : jcode 183 pc = some x := h
theorem hh183 : jhh 183 = [] := rfl
theorem js183 : unt 10 = jcls 183 := by decide +kernel
theorem c184 (pc : Nat) {x : JI} (h : cd_184.lookup pc = some x) : jcode 184 pc = some x := h
theorem hh184 : jhh 184 = [] := rfl
theorem js184 : unt 2 = jcls 184 := by decide +kernel
theorem c185 (pc : Nat) {x : JI} (h : cd_185.lookup pc = some x) : jcode 185 pc = some x := h
theorem hh185 : jhh 185 = [] := rfl
theorem js185 : unt 2 = jcls 185 := by decide +kernel
theorem c186 (pc : Nat) {x : JI} (h : cd_186.lookup pc = some x) : jcode 186 pc = some x := h
theorem hh186 : jhh 186 = [] := rfl
theorem js186 : unt 2 = jcls 186 := by decide +kernel
theorem c187 (pc : Nat) {x : JI} (h : cd_187.lookup pc = some x) : jcode 187 pc = some x := h
theorem hh187 : jhh 187 = [] := rfl
theorem js187 : unt 2 = jcls 187 := by decide +kernel
theorem c188 (pc : Nat) {x : JI} (h : cd_188.lookup pc = some x) : jcode 188 pc = some x := h
theorem hh188 : jhh 188 = [] := rfl
theorem js188 : unt 2 = jcls 188 := by decide +kernel
theorem c189 (pc : Nat) {x : JI} (h : cd_189.lookup pc = some x) : jcode 189 pc = some x := h
theorem hh189 : jhh 189 = [] := rfl
theorem js189 : unt 2 = jcls 189 := by decide +kernel
theorem c190 (pc : Nat) {x : JI} (h : cd_190.lookup pc = some x) : jcode 190 pc = some x := h
theorem hh190 : jhh 190 = [] := rfl
theorem js190 : unt 8 = jcls 190 := by decide +kernel
theorem c191 (pc : Nat) {x : JI} (h : cd_191.lookup pc = some x) : jcode 191 pc = some x := h
theorem hh191 : jhh 191 = [] := rfl
theorem js191 : unt 2 = jcls 191 := by decide +kernel
theorem c192 (pc : Nat) {x : JI} (h : cd_192.lookup pc = some x) : jcode 192 pc = some x := h
theorem c193 (pc : Nat) {x : JI} (h : cd_193.lookup pc = some x) : jcode 193 pc = some x := h
theorem hh193 : jhh 193 = [] := rfl
theorem js193 : unt 10 = jcls 193 := by decide +kernel
theorem c194 (pc : Nat) {x : JI} (h : cd_194.lookup pc = some x) : jcode 194 pc = some x := h
theorem hh194 : jhh 194 = [] := rfl
theorem js194 : unt 10 = jcls 194 := by decide +kernel
theorem c195 (pc : Nat) {x : JI} (h : cd_195.lookup pc = some x) : jcode 195 pc = some x := h
theorem hh195 : jhh 195 = [] := rfl
theorem js195 : unt 2 = jcls 195 := by decide +kernel
theorem c196 (pc : Nat) {x : JI} (h : cd_196.lookup pc = some x) : jcode 196 pc = some x := h
theorem c197 (pc : Nat) {x : JI} (h : cd_197.lookup pc = some x) : jcode 197 pc = some x := h
theorem hh197 : jhh 197 = [] := rfl
theorem js197 : unt 10 = jcls 197 := by decide +kernel
theorem c198 (pc : Nat) {x : JI} (h : cd_198.lookup pc = some x) : jcode 198 pc = some x := h
theorem hh198 : jhh 198 = [] := rfl
theorem js198 : unt 2 = jcls 198 := by decide +kernel
theorem c199 (pc : Nat) {x : JI} (h : cd_199.lookup pc = some x) : jcode 199 pc = some x := h
theorem c200 (pc : Nat) {x : JI} (h : cd_200.lookup pc = some x) : jcode 200 pc = some x := h
theorem hh200 : jhh 200 = [] := rfl
theorem js200 : unt 10 = jcls 200 := by decide +kernel
theorem c201 (pc : Nat) {x : JI} (h : cd_201.lookup pc = some x) : jcode 201 pc = some x := h
theorem hh201 : jhh 201 = [] := rfl
theorem js201 : unt 2 = jcls 201 := by decide +kernel
theorem c202 (pc : Nat) {x : JI} (h : cd_202.lookup pc = some x) : jcode 202 pc = some x := h
theorem c203 (pc : Nat) {x : JI} (h : cd_203.lookup pc = some x) : jcode 203 pc = some x := h
theorem hh203 : jhh 203 = [] := rfl
theorem js203 : unt 10 = jcls 203 := by decide +kernel
theorem c204 (pc : Nat) {x : JI} (h : cd_204.lookup pc = some x) : jcode 204 pc = some x := h
theorem hh204 : jhh 204 = [] := rfl
theorem js204 : unt 2 = jcls 204 := by decide +kernel
theorem c205 (pc : Nat) {x : JI} (h : cd_205.lookup pc = some x) : jcode 205 pc = some x := h
theorem c206 (pc : Nat) {x : JI} (h : cd_206.lookup pc = some x) : jcode 206 pc = some x := h
theorem hh206 : jhh 206 = [] := rfl
theorem js206 : unt 10 = jcls 206 := by decide +kernel
theorem c207 (pc : Nat) {x : JI} (h : cd_207.lookup pc = some x) : jcode 207 pc = some x := h
theorem c208 (pc : Nat) {x : JI} (h : cd_208.lookup pc = some x) : jcode 208 pc = some x := h
theorem hh208 : jhh 208 = [] := rfl
theorem js208 : unt 10 = jcls 208 := by decide +kernel
theorem c209 (pc : Nat) {x : JI} (h : cd_209.lookup pc = some x) : jcode 209 pc = some x := h
theorem hh209 : jhh 209 = [] := rfl
theorem js209 : unt 1 = jcls 209 := by decide +kernel
theorem c210 (pc : Nat) {x : JI} (h : cd_210.lookup pc = some x) : jcode 210 pc = some x := h
theorem hh210 : jhh 210 = [] := rfl
theorem js210 : unt 1 = jcls 210 := by decide +kernel
theorem c211 (pc : Nat) {x : JI} (h : cd_211.lookup pc = some x) : jcode 211 pc = some x := h
theorem hh211 : jhh 211 = [] := rfl
theorem js211 : unt 1 = jcls 211 := by decide +kernel
theorem c212 (pc : Nat) {x : JI} (h : cd_212.lookup pc = some x) : jcode 212 pc = some x := h
theorem hh212 : jhh 212 = [] := rfl
theorem js212 : unt 1 = jcls 212 := by decide +kernel
theorem c213 (pc : Nat) {x : JI} (h : cd_213.lookup pc = some x) : jcode 213 pc = some x := h
theorem c214 (pc : Nat) {x : JI} (h : cd_214.lookup pc = some x) : jcode 214 pc = some x := h
theorem hh214 : jhh 214 = [] := rfl
theorem js214 : unt 10 = jcls 214 := by decide +kernel
theorem c215 (pc : Nat) {x : JI} (h : cd_215.lookup pc = some x) : jcode 215 pc = some x := h
theorem c216 (pc : Nat) {x : JI} (h : cd_216.lookup pc = some x) : jcode 216 pc = some x := h
theorem hh216 : jhh 216 = [] := rfl
theorem js216 : unt 10 = jcls 216 := by decide +kernel
theorem c217 (pc : Nat) {x : JI} (h : cd_217.lookup pc = some x) : jcode 217 pc = some x := h
theorem c218 (pc : Nat) {x : JI} (h : cd_218.lookup pc = some x) : jcode 218 pc = some x := h
theorem hh218 : jhh 218 = [] := rfl
theorem js218 : unt 10 = jcls 218 := by decide +kernel
theorem c219 (pc : Nat) {x : JI} (h : cd_219.lookup pc = some x) : jcode 219 pc = some x := h
theorem c220 (pc : Nat) {x : JI} (h : cd_220.lookup pc = some x) : jcode 220 pc = some x := h
theorem hh220 : jhh 220 = [] := rfl
theorem js220 : unt 10 = jcls 220 := by decide +kernel
theorem c221 (pc : Nat) {x : JI} (h : cd_221.lookup pc = some x) : jcode 221 pc = some x := h
theorem hh221 : jhh 221 = [] := rfl
theorem js221 : unt 1 = jcls 221 := by decide +kernel
theorem c222 (pc : Nat) {x : JI} (h : cd_222.lookup pc = some x) : jcode 222 pc = some x := h
theorem c223 (pc : Nat) {x : JI} (h : cd_223.lookup pc = some x) : jcode 223 pc = some x := h
theorem hh223 : jhh 223 = [] := rfl
theorem js223 : unt 10 = jcls 223 := by decide +kernel
theorem c224 (pc : Nat) {x : JI} (h : cd_224.lookup pc = some x) : jcode 224 pc = some x := h
theorem hh224 : jhh 224 = [] := rfl
theorem js224 : unt 10 = jcls 224 := by decide +kernel
theorem c225 (pc : Nat) {x : JI} (h : cd_225.lookup pc = some x) : jcode 225 pc = some x := h
theorem hh225 : jhh 225 = [] := rfl
theorem js225 : unt 0 = jcls 225 := by decide +kernel
theorem c226 (pc : Nat) {x : JI} (h : cd_226.lookup pc = some x) : jcode 226 pc = some x := h
theorem hh226 : jhh 226 = [] := rfl
theorem js226 : unt 0 = jcls 226 := by decide +kernel
theorem c227 (pc : Nat) {x : JI} (h : cd_227.lookup pc = some x) : jcode 227 pc = some x := h
theorem c228 (pc : Nat) {x : JI} (h : cd_228.lookup pc = some x) : jcode 228 pc = some x := h
theorem hh228 : jhh 228 = [] := rfl
theorem js228 : unt 10 = jcls 228 := by decide +kernel
theorem c229 (pc : Nat) {x : JI} (h : cd_229.lookup pc = some x) : jcode 229 pc = some x := h
theorem hh229 : jhh 229 = [] := rfl
theorem js229 : unt 10 = jcls 229 := by decide +kernel
theorem c230 (pc : Nat) {x : JI} (h : cd_230.lookup pc = some x) : jcode 230 pc = some x := h
theorem c231 (pc : Nat) {x : JI} (h : cd_231.lookup pc = some x) : jcode 231 pc = some x := h
theorem hh231 : jhh 231 = [] := rfl
theorem js231 : unt 10 = jcls 231 := by decide +kernel
theorem c232 (pc : Nat) {x : JI} (h : cd_232.lookup pc = some x) : jcode 232 pc = some x := h
theorem c233 (pc : Nat) {x : JI} (h : cd_233.lookup pc = some x) : jcode 233 pc = some x := h
theorem hh233 : jhh 233 = [] := rfl
theorem js233 : unt 10 = jcls 233 := by decide +kernel
theorem c234 (pc : Nat) {x : JI} (h : cd_234.lookup pc = some x) : jcode 234 pc = some x := h
theorem c235 (pc : Nat) {x : JI} (h : cd_235.lookup pc = some x) : jcode 235 pc = some x := h
theorem hh235 : jhh 235 = [] := rfl
theorem js235 : unt 10 = jcls 235 := by decide +kernel
theorem c236 (pc : Nat) {x : JI} (h : cd_236.lookup pc = some x) : jcode 236 pc = some x := h
theorem c237 (pc : Nat) {x : JI} (h : cd_237.lookup pc = some x) : jcode 237 pc = some x := h
theorem hh237 : jhh 237 = [] := rfl
theorem js237 : unt 10 = jcls 237 := by decide +kernel
theorem c238 (pc : Nat) {x : JI} (h : cd_238.lookup pc = some x) : jcode 238 pc = some x := h
theorem c239 (pc : Nat) {x : JI} (h : cd_239.lookup pc = some x) : jcode 239 pc = some x := h
theorem hh239 : jhh 239 = [] := rfl
theorem js239 : unt 10 = jcls 239 := by decide +kernel
theorem c240 (pc : Nat) {x : JI} (h : cd_240.lookup pc = some x) : jcode 240 pc = some x := h
theorem hh240 : jhh 240 = [] := rfl
theorem js240 : unt 5 = jcls 240 := by decide +kernel
theorem c241 (pc : Nat) {x : JI} (h : cd_241.lookup pc = some x) : jcode 241 pc = some x := h
theorem c242 (pc : Nat) {x : JI} (h : cd_242.lookup pc = some x) : jcode 242 pc = some x := h
theorem hh242 : jhh 242 = [] := rfl
theorem js242 : unt 10 = jcls 242 := by decide +kernel
theorem c243 (pc : Nat) {x : JI} (h : cd_243.lookup pc = some x) : jcode 243 pc = some x := h
theorem hh243 : jhh 243 = [] := rfl
theorem js243 : unt 7 = jcls 243 := by decide +kernel
theorem c244 (pc : Nat) {x : JI} (h : cd_244.lookup pc = some x) : jcode 244 pc = some x := h
theorem c245 (pc : Nat) {x : JI} (h : cd_245.lookup pc = some x) : jcode 245 pc = some x := h
theorem hh245 : jhh 245 = [] := rfl
theorem js245 : unt 10 = jcls 245 := by decide +kernel
theorem c246 (pc : Nat) {x : JI} (h : cd_246.lookup pc = some x) : jcode 246 pc = some x := h
theorem c247 (pc : Nat) {x : JI} (h : cd_247.lookup pc = some x) : jcode 247 pc = some x := h
theorem hh247 : jhh 247 = [] := rfl
theorem js247 : unt 10 = jcls 247 := by decide +kernel
theorem c248 (pc : Nat) {x : JI} (h : cd_248.lookup pc = some x) : jcode 248 pc = some x := h
theorem hh248 : jhh 248 = [] := rfl
theorem js248 : unt 7 = jcls 248 := by decide +kernel
theorem c249 (pc : Nat) {x : JI} (h : cd_249.lookup pc = some x) : jcode 249 pc = some x := h
theorem c250 (pc : Nat) {x : JI} (h : cd_250.lookup pc = some x) : jcode 250 pc = some x := h
theorem hh250 : jhh 250 = [] := rfl
theorem js250 : unt 10 = jcls 250 := by decide +kernel
theorem c251 (pc : Nat) {x : JI} (h : cd_251.lookup pc = some x) : jcode 251 pc = some x := h
theorem hh251 : jhh 251 = [] := rfl
theorem js251 : unt 0 = jcls 251 := by decide +kernel
theorem c252 (pc : Nat) {x : JI} (h : cd_252.lookup pc = some x) : jcode 252 pc = some x := h
theorem c253 (pc : Nat) {x : JI} (h : cd_253.lookup pc = some x) : jcode 253 pc = some x := h
theorem hh253 : jhh 253 = [] := rfl
theorem js253 : unt 10 = jcls 253 := by decide +kernel
theorem c254 (pc : Nat) {x : JI} (h : cd_254.lookup pc = some x) : jcode 254 pc = some x := h
theorem c255 (pc : Nat) {x : JI} (h : cd_255.lookup pc = some x) : jcode 255 pc = some x := h
theorem hh255 : jhh 255 = [] := rfl
theorem js255 : unt 10 = jcls 255 := by decide +kernel
theorem c257 (pc : Nat) {x : JI} (h : cd_257.lookup pc = some x) : jcode 257 pc = some x := h
theorem hh257 : jhh 257 = [] := rfl
theorem js257 : unt 11 = jcls 257 := by decide +kernel
theorem c258 (pc : Nat) {x : JI} (h : cd_258.lookup pc = some x) : jcode 258 pc = some x := h
theorem hh258 : jhh 258 = [] := rfl
theorem js258 : unt 11 = jcls 258 := by decide +kernel
theorem c259 (pc : Nat) {x : JI} (h : cd_259.lookup pc = some x) : jcode 259 pc = some x := h
theorem hh259 : jhh 259 = [] := rfl
theorem js259 : unt 11 = jcls 259 := by decide +kernel
theorem c260 (pc : Nat) {x : JI} (h : cd_260.lookup pc = some x) : jcode 260 pc = some x := h
theorem hh260 : jhh 260 = [] := rfl
theorem js260 : unt 11 = jcls 260 := by decide +kernel
theorem c261 (pc : Nat) {x : JI} (h : cd_261.lookup pc = some x) : jcode 261 pc = some x := h
theorem hh261 : jhh 261 = [] := rfl
theorem js261 : unt 11 = jcls 261 := by decide +kernel
theorem c262 (pc : Nat) {x : JI} (h : cd_262.lookup pc = some x) : jcode 262 pc = some x := h
theorem hh262 : jhh 262 = [] := rfl
theorem js262 : unt 11 = jcls 262 := by decide +kernel
theorem c263 (pc : Nat) {x : JI} (h : cd_263.lookup pc = some x) : jcode 263 pc = some x := h
theorem hh263 : jhh 263 = [] := rfl
theorem js263 : unt 11 = jcls 263 := by decide +kernel
theorem c264 (pc : Nat) {x : JI} (h : cd_264.lookup pc = some x) : jcode 264 pc = some x := h
theorem hh264 : jhh 264 = [] := rfl
theorem js264 : unt 11 = jcls 264 := by decide +kernel
theorem c265 (pc : Nat) {x : JI} (h : cd_265.lookup pc = some x) : jcode 265 pc = some x := h
theorem hh265 : jhh 265 = [] := rfl
theorem c266 (pc : Nat) {x : JI} (h : cd_266.lookup pc = some x) : jcode 266 pc = some x := h
theorem hh266 : jhh 266 = [] := rfl
theorem js266 : unt 11 = jcls 266 := by decide +kernel
theorem c267 (pc : Nat) {x : JI} (h : cd_267.lookup pc = some x) : jcode 267 pc = some x := h
theorem hh267 : jhh 267 = [] := rfl
theorem c268 (pc : Nat) {x : JI} (h : cd_268.lookup pc = some x) : jcode 268 pc = some x := h
theorem hh268 : jhh 268 = [] := rfl
theorem js268 : unt 11 = jcls 268 := by decide +kernel
theorem c269 (pc : Nat) {x : JI} (h : cd_269.lookup pc = some x) : jcode 269 pc = some x := h
theorem hh269 : jhh 269 = [] := rfl
theorem js269 : unt 11 = jcls 269 := by decide +kernel
theorem c270 (pc : Nat) {x : JI} (h : cd_270.lookup pc = some x) : jcode 270 pc = some x := h
theorem hh270 : jhh 270 = [] := rfl
theorem js270 : unt 11 = jcls 270 := by decide +kernel
theorem c271 (pc : Nat) {x : JI} (h : cd_271.lookup pc = some x) : jcode 271 pc = some x := h
theorem hh271 : jhh 271 = [] := rfl
theorem c272 (pc : Nat) {x : JI} (h : cd_272.lookup pc = some x) : jcode 272 pc = some x := h
theorem hh272 : jhh 272 = [] := rfl
theorem js272 : unt 11 = jcls 272 := by decide +kernel
theorem c273 (pc : Nat) {x : JI} (h : cd_273.lookup pc = some x) : jcode 273 pc = some x := h
theorem hh273 : jhh 273 = [] := rfl
theorem js273 : unt 11 = jcls 273 := by decide +kernel
theorem c274 (pc : Nat) {x : JI} (h : cd_274.lookup pc = some x) : jcode 274 pc = some x := h
theorem hh274 : jhh 274 = [] := rfl
theorem js274 : unt 11 = jcls 274 := by decide +kernel
theorem c275 (pc : Nat) {x : JI} (h : cd_275.lookup pc = some x) : jcode 275 pc = some x := h
theorem hh275 : jhh 275 = [] := rfl
theorem js275 : unt 11 = jcls 275 := by decide +kernel
theorem c276 (pc : Nat) {x : JI} (h : cd_276.lookup pc = some x) : jcode 276 pc = some x := h
theorem hh276 : jhh 276 = [] := rfl
theorem js276 : unt 11 = jcls 276 := by decide +kernel
theorem c277 (pc : Nat) {x : JI} (h : cd_277.lookup pc = some x) : jcode 277 pc = some x := h
theorem hh277 : jhh 277 = [] := rfl
theorem js277 : unt 11 = jcls 277 := by decide +kernel
theorem c278 (pc : Nat) {x : JI} (h : cd_278.lookup pc = some x) : jcode 278 pc = some x := h
theorem hh278 : jhh 278 = [] := rfl
theorem js278 : unt 11 = jcls 278 := by decide +kernel
theorem c279 (pc : Nat) {x : JI} (h : cd_279.lookup pc = some x) : jcode 279 pc = some x := h
theorem hh279 : jhh 279 = [] := rfl
theorem js279 : unt 11 = jcls 279 := by decide +kernel
theorem c280 (pc : Nat) {x : JI} (h : cd_280.lookup pc = some x) : jcode 280 pc = some x := h
theorem hh280 : jhh 280 = [] := rfl
theorem js280 : unt 11 = jcls 280 := by decide +kernel
theorem c281 (pc : Nat) {x : JI} (h : cd_281.lookup pc = some x) : jcode 281 pc = some x := h
theorem hh281 : jhh 281 = [] := rfl
theorem js281 : unt 11 = jcls 281 := by decide +kernel
theorem c282 (pc : Nat) {x : JI} (h : cd_282.lookup pc = some x) : jcode 282 pc = some x := h
theorem hh282 : jhh 282 = [] := rfl
theorem js282 : unt 11 = jcls 282 := by decide +kernel
theorem c283 (pc : Nat) {x : JI} (h : cd_283.lookup pc = some x) : jcode 283 pc = some x := h
theorem hh283 : jhh 283 = [] := rfl
theorem js283 : unt 11 = jcls 283 := by decide +kernel
theorem c284 (pc : Nat) {x : JI} (h : cd_284.lookup pc = some x) : jcode 284 pc = some x := h
theorem hh284 : jhh 284 = [] := rfl
theorem js284 : unt 11 = jcls 284 := by decide +kernel
theorem c285 (pc : Nat) {x : JI} (h : cd_285.lookup pc = some x) : jcode 285 pc = some x := h
theorem hh285 : jhh 285 = [] := rfl
theorem js285 : unt 11 = jcls 285 := by decide +kernel
theorem c286 (pc : Nat) {x : JI} (h : cd_286.lookup pc = some x) : jcode 286 pc = some x := h
theorem hh286 : jhh 286 = [] := rfl
theorem js286 : unt 11 = jcls 286 := by decide +kernel
theorem c287 (pc : Nat) {x : JI} (h : cd_287.lookup pc = some x) : jcode 287 pc = some x := h
theorem hh287 : jhh 287 = [] := rfl
theorem js287 : unt 11 = jcls 287 := by decide +kernel
theorem c288 (pc : Nat) {x : JI} (h : cd_288.lookup pc = some x) : jcode 288 pc = some x := h
theorem hh288 : jhh 288 = [] := rfl
theorem js288 : unt 11 = jcls 288 := by decide +kernel
theorem c289 (pc : Nat) {x : JI} (h : cd_289.lookup pc = some x) : jcode 289 pc = some x := h
theorem hh289 : jhh 289 = [] := rfl
theorem js289 : unt 11 = jcls 289 := by decide +kernel
theorem c290 (pc : Nat) {x : JI} (h : cd_290.lookup pc = some x) : jcode 290 pc = some x := h
theorem hh290 : jhh 290 = [] := rfl
theorem js290 : unt 11 = jcls 290 := by decide +kernel
theorem c291 (pc : Nat) {x : JI} (h : cd_291.lookup pc = some x) : jcode 291 pc = some x := h
theorem hh291 : jhh 291 = [] := rfl
theorem js291 : unt 11 = jcls 291 := by decide +kernel
theorem c292 (pc : Nat) {x : JI} (h : cd_292.lookup pc = some x) : jcode 292 pc = some x := h
theorem hh292 : jhh 292 = [] := rfl
theorem js292 : unt 11 = jcls 292 := by decide +kernel
theorem c293 (pc : Nat) {x : JI} (h : cd_293.lookup pc = some x) : jcode 293 pc = some x := h
theorem hh293 : jhh 293 = [] := rfl
theorem js293 : unt 11 = jcls 293 := by decide +kernel
theorem c294 (pc : Nat) {x : JI} (h : cd_294.lookup pc = some x) : jcode 294 pc = some x := h
theorem hh294 : jhh 294 = [] := rfl
theorem js294 : unt 11 = jcls 294 := by decide +kernel
theorem c295 (pc : Nat) {x : JI} (h : cd_295.lookup pc = some x) : jcode 295 pc = some x := h
theorem hh295 : jhh 295 = [] := rfl
theorem js295 : unt 11 = jcls 295 := by decide +kernel
theorem c296 (pc : Nat) {x : JI} (h : cd_296.lookup pc = some x) : jcode 296 pc = some x := h
theorem hh296 : jhh 296 = [] := rfl
theorem js296 : unt 11 = jcls 296 := by decide +kernel
theorem c297 (pc : Nat) {x : JI} (h : cd_297.lookup pc = some x) : jcode 297 pc = some x := h
theorem hh297 : jhh 297 = [] := rfl
theorem js297 : unt 11 = jcls 297 := by decide +kernel
theorem c298 (pc : Nat) {x : JI} (h : cd_298.lookup pc = some x) : jcode 298 pc = some x := h
theorem hh298 : jhh 298 = [] := rfl
theorem js298 : unt 11 = jcls 298 := by decide +kernel
theorem c299 (pc : Nat) {x : JI} (h : cd_299.lookup pc = some x) : jcode 299 pc = some x := h
theorem hh299 : jhh 299 = [] := rfl
theorem js299 : unt 11 = jcls 299 := by decide +kernel
theorem c300 (pc : Nat) {x : JI} (h : cd_300.lookup pc = some x) : jcode 300 pc = some x := h
theorem hh300 : jhh 300 = [] := rfl
theorem c301 (pc : Nat) {x : JI} (h : cd_301.lookup pc = some x) : jcode 301 pc = some x := h
theorem hh301 : jhh 301 = [] := rfl
theorem js301 : unt 11 = jcls 301 := by decide +kernel
theorem c302 (pc : Nat) {x : JI} (h : cd_302.lookup pc = some x) : jcode 302 pc = some x := h
theorem hh302 : jhh 302 = [] := rfl
theorem js302 : unt 11 = jcls 302 := by decide +kernel
theorem c303 (pc : Nat) {x : JI} (h : cd_303.lookup pc = some x) : jcode 303 pc = some x := h
theorem hh303 : jhh 303 = [] := rfl
theorem js303 : unt 11 = jcls 303 := by decide +kernel
theorem c304 (pc : Nat) {x : JI} (h : cd_304.lookup pc = some x) : jcode 304 pc = some x := h
theorem hh304 : jhh 304 = [] := rfl
theorem js304 : unt 11 = jcls 304 := by decide +kernel
theorem c305 (pc : Nat) {x : JI} (h : cd_305.lookup pc = some x) : jcode 305 pc = some x := h
theorem hh305 : jhh 305 = [] := rfl
theorem js305 : unt 11 = jcls 305 := by decide +kernel
theorem c306 (pc : Nat) {x : JI} (h : cd_306.lookup pc = some x) : jcode 306 pc = some x := h
theorem hh306 : jhh 306 = [] := rfl
theorem js306 : unt 11 = jcls 306 := by decide +kernel
theorem c307 (pc : Nat) {x : JI} (h : cd_307.lookup pc = some x) : jcode 307 pc = some x := h
theorem hh307 : jhh 307 = [] := rfl
theorem js307 : unt 11 = jcls 307 := by decide +kernel
theorem c308 (pc : Nat) {x : JI} (h : cd_308.lookup pc = some x) : jcode 308 pc = some x := h
theorem hh308 : jhh 308 = [] := rfl
theorem js308 : unt 11 = jcls 308 := by decide +kernel
theorem c309 (pc : Nat) {x : JI} (h : cd_309.lookup pc = some x) : jcode 309 pc = some x := h
theorem hh309 : jhh 309 = [] := rfl
theorem js309 : unt 11 = jcls 309 := by decide +kernel
theorem c310 (pc : Nat) {x : JI} (h : cd_310.lookup pc = some x) : jcode 310 pc = some x := h
theorem hh310 : jhh 310 = [] := rfl
theorem js310 : unt 11 = jcls 310 := by decide +kernel
theorem c311 (pc : Nat) {x : JI} (h : cd_311.lookup pc = some x) : jcode 311 pc = some x := h
theorem hh311 : jhh 311 = [] := rfl
theorem js311 : unt 11 = jcls 311 := by decide +kernel
theorem c312 (pc : Nat) {x : JI} (h : cd_312.lookup pc = some x) : jcode 312 pc = some x := h
theorem hh312 : jhh 312 = [] := rfl
theorem js312 : unt 11 = jcls 312 := by decide +kernel
theorem c313 (pc : Nat) {x : JI} (h : cd_313.lookup pc = some x) : jcode 313 pc = some x := h
theorem hh313 : jhh 313 = [] := rfl
theorem js313 : unt 11 = jcls 313 := by decide +kernel
theorem c314 (pc : Nat) {x : JI} (h : cd_314.lookup pc = some x) : jcode 314 pc = some x := h
theorem hh314 : jhh 314 = [] := rfl
theorem js314 : unt 11 = jcls 314 := by decide +kernel
theorem c315 (pc : Nat) {x : JI} (h : cd_315.lookup pc = some x) : jcode 315 pc = some x := h
theorem hh315 : jhh 315 = [] := rfl
theorem js315 : unt 11 = jcls 315 := by decide +kernel
theorem c316 (pc : Nat) {x : JI} (h : cd_316.lookup pc = some x) : jcode 316 pc = some x := h
theorem hh316 : jhh 316 = [] := rfl
theorem js316 : unt 11 = jcls 316 := by decide +kernel
theorem c317 (pc : Nat) {x : JI} (h : cd_317.lookup pc = some x) : jcode 317 pc = some x := h
theorem hh317 : jhh 317 = [] := rfl
theorem js317 : unt 11 = jcls 317 := by decide +kernel
theorem c318 (pc : Nat) {x : JI} (h : cd_318.lookup pc = some x) : jcode 318 pc = some x := h
theorem hh318 : jhh 318 = [] := rfl
theorem js318 : unt 11 = jcls 318 := by decide +kernel
theorem c319 (pc : Nat) {x : JI} (h : cd_319.lookup pc = some x) : jcode 319 pc = some x := h
theorem hh319 : jhh 319 = [] := rfl
theorem js319 : unt 11 = jcls 319 := by decide +kernel
theorem c320 (pc : Nat) {x : JI} (h : cd_320.lookup pc = some x) : jcode 320 pc = some x := h
theorem hh320 : jhh 320 = [] := rfl
theorem js320 : unt 11 = jcls 320 := by decide +kernel
theorem c321 (pc : Nat) {x : JI} (h : cd_321.lookup pc = some x) : jcode 321 pc = some x := h
theorem hh321 : jhh 321 = [] := rfl
theorem js321 : unt 11 = jcls 321 := by decide +kernel
theorem c322 (pc : Nat) {x : JI} (h : cd_322.lookup pc = some x) : jcode 322 pc = some x := h
theorem hh322 : jhh 322 = [] := rfl
theorem js322 : unt 11 = jcls 322 := by decide +kernel
theorem c323 (pc : Nat) {x : JI} (h : cd_323.lookup pc = some x) : jcode 323 pc = some x := h
theorem hh323 : jhh 323 = [] := rfl
theorem js323 : unt 11 = jcls 323 := by decide +kernel
theorem c324 (pc : Nat) {x : JI} (h : cd_324.lookup pc = some x) : jcode 324 pc = some x := h
theorem hh324 : jhh 324 = [] := rfl
theorem js324 : unt 11 = jcls 324 := by decide +kernel
theorem c325 (pc : Nat) {x : JI} (h : cd_325.lookup pc = some x) : jcode 325 pc = some x := h
theorem hh325 : jhh 325 = [] := rfl
theorem js325 : unt 11 = jcls 325 := by decide +kernel
theorem c326 (pc : Nat) {x : JI} (h : cd_326.lookup pc = some x) : jcode 326 pc = some x := h
theorem hh326 : jhh 326 = [] := rfl
theorem js326 : unt 11 = jcls 326 := by decide +kernel
theorem c327 (pc : Nat) {x : JI} (h : cd_327.lookup pc = some x) : jcode 327 pc = some x := h
theorem hh327 : jhh 327 = [] := rfl
theorem js327 : unt 11 = jcls 327 := by decide +kernel
theorem c328 (pc : Nat) {x : JI} (h : cd_328.lookup pc = some x) : jcode 328 pc = some x := h
theorem hh328 : jhh 328 = [] := rfl
theorem js328 : unt 11 = jcls 328 := by decide +kernel
theorem c329 (pc : Nat) {x : JI} (h : cd_329.lookup pc = some x) : jcode 329 pc = some x := h
theorem hh329 : jhh 329 = [] := rfl
theorem js329 : unt 11 = jcls 329 := by decide +kernel
theorem c330 (pc : Nat) {x : JI} (h : cd_330.lookup pc = some x) : jcode 330 pc = some x := h
theorem hh330 : jhh 330 = [] := rfl
theorem js330 : unt 11 = jcls 330 := by decide +kernel
theorem c331 (pc : Nat) {x : JI} (h : cd_331.lookup pc = some x) : jcode 331 pc = some x := h
theorem hh331 : jhh 331 = [] := rfl
theorem js331 : unt 11 = jcls 331 := by decide +kernel
theorem c332 (pc : Nat) {x : JI} (h : cd_332.lookup pc = some x) : jcode 332 pc = some x := h
theorem hh332 : jhh 332 = [] := rfl
theorem js332 : unt 11 = jcls 332 := by decide +kernel
theorem c333 (pc : Nat) {x : JI} (h : cd_333.lookup pc = some x) : jcode 333 pc = some x := h
theorem hh333 : jhh 333 = [] := rfl
theorem js333 : unt 11 = jcls 333 := by decide +kernel
theorem c334 (pc : Nat) {x : JI} (h : cd_334.lookup pc = some x) : jcode 334 pc = some x := h
theorem hh334 : jhh 334 = [] := rfl
theorem js334 : unt 11 = jcls 334 := by decide +kernel
theorem c335 (pc : Nat) {x : JI} (h : cd_335.lookup pc = some x) : jcode 335 pc = some x := h
theorem hh335 : jhh 335 = [] := rfl
theorem js335 : unt 11 = jcls 335 := by decide +kernel
theorem c336 (pc : Nat) {x : JI} (h : cd_336.lookup pc = some x) : jcode 336 pc = some x := h
theorem hh336 : jhh 336 = [] := rfl
theorem js336 : unt 11 = jcls 336 := by decide +kernel
theorem c337 (pc : Nat) {x : JI} (h : cd_337.lookup pc = some x) : jcode 337 pc = some x := h
theorem hh337 : jhh 337 = [] := rfl
theorem js337 : unt 11 = jcls 337 := by decide +kernel
theorem c338 (pc : Nat) {x : JI} (h : cd_338.lookup pc = some x) : jcode 338 pc = some x := h
theorem hh338 : jhh 338 = [] := rfl
theorem js338 : unt 11 = jcls 338 := by decide +kernel
theorem c339 (pc : Nat) {x : JI} (h : cd_339.lookup pc = some x) : jcode 339 pc = some x := h
theorem hh339 : jhh 339 = [] := rfl
theorem js339 : unt 11 = jcls 339 := by decide +kernel
theorem c340 (pc : Nat) {x : JI} (h : cd_340.lookup pc = some x) : jcode 340 pc = some x := h
theorem hh340 : jhh 340 = [] := rfl
theorem js340 : unt 11 = jcls 340 := by decide +kernel
theorem c341 (pc : Nat) {x : JI} (h : cd_341.lookup pc = some x) : jcode 341 pc = some x := h
theorem hh341 : jhh 341 = [] := rfl
theorem js341 : unt 11 = jcls 341 := by decide +kernel
theorem c342 (pc : Nat) {x : JI} (h : cd_342.lookup pc = some x) : jcode 342 pc = some x := h
theorem hh342 : jhh 342 = [] := rfl
theorem js342 : unt 11 = jcls 342 := by decide +kernel
theorem c343 (pc : Nat) {x : JI} (h : cd_343.lookup pc = some x) : jcode 343 pc = some x := h
theorem hh343 : jhh 343 = [] := rfl
theorem js343 : unt 11 = jcls 343 := by decide +kernel
theorem c344 (pc : Nat) {x : JI} (h : cd_344.lookup pc = some x) : jcode 344 pc = some x := h
theorem hh344 : jhh 344 = [] := rfl
theorem js344 : unt 11 = jcls 344 := by decide +kernel
theorem c345 (pc : Nat) {x : JI} (h : cd_345.lookup pc = some x) : jcode 345 pc = some x := h
theorem hh345 : jhh 345 = [] := rfl
theorem js345 : unt 11 = jcls 345 := by decide +kernel
theorem c346 (pc : Nat) {x : JI} (h : cd_346.lookup pc = some x) : jcode 346 pc = some x := h
theorem hh346 : jhh 346 = [] := rfl
theorem js346 : unt 11 = jcls 346 := by decide +kernel
theorem c347 (pc : Nat) {x : JI} (h : cd_347.lookup pc = some x) : jcode 347 pc = some x := h
theorem hh347 : jhh 347 = [] := rfl
theorem js347 : unt 11 = jcls 347 := by decide +kernel
theorem c348 (pc : Nat) {x : JI} (h : cd_348.lookup pc = some x) : jcode 348 pc = some x := h
theorem hh348 : jhh 348 = [] := rfl
theorem js348 : unt 11 = jcls 348 := by decide +kernel
theorem c349 (pc : Nat) {x : JI} (h : cd_349.lookup pc = some x) : jcode 349 pc = some x := h
theorem hh349 : jhh 349 = [] := rfl
theorem js349 : unt 11 = jcls 349 := by decide +kernel
theorem c350 (pc : Nat) {x : JI} (h : cd_350.lookup pc = some x) : jcode 350 pc = some x := h
theorem hh350 : jhh 350 = [] := rfl
theorem js350 : unt 11 = jcls 350 := by decide +kernel
theorem c351 (pc : Nat) {x : JI} (h : cd_351.lookup pc = some x) : jcode 351 pc = some x := h
theorem hh351 : jhh 351 = [] := rfl
theorem js351 : unt 11 = jcls 351 := by decide +kernel
theorem c352 (pc : Nat) {x : JI} (h : cd_352.lookup pc = some x) : jcode 352 pc = some x := h
theorem hh352 : jhh 352 = [] := rfl
theorem js352 : unt 11 = jcls 352 := by decide +kernel
theorem c353 (pc : Nat) {x : JI} (h : cd_353.lookup pc = some x) : jcode 353 pc = some x := h
theorem hh353 : jhh 353 = [] := rfl
theorem js353 : unt 11 = jcls 353 := by decide +kernel
theorem c354 (pc : Nat) {x : JI} (h : cd_354.lookup pc = some x) : jcode 354 pc = some x := h
theorem hh354 : jhh 354 = [] := rfl
theorem js354 : unt 11 = jcls 354 := by decide +kernel
theorem c355 (pc : Nat) {x : JI} (h : cd_355.lookup pc = some x) : jcode 355 pc = some x := h
theorem hh355 : jhh 355 = [] := rfl
theorem js355 : unt 11 = jcls 355 := by decide +kernel
theorem c356 (pc : Nat) {x : JI} (h : cd_356.lookup pc = some x) : jcode 356 pc = some x := h
theorem hh356 : jhh 356 = [] := rfl
theorem js356 : unt 11 = jcls 356 := by decide +kernel
theorem c357 (pc : Nat) {x : JI} (h : cd_357.lookup pc = some x) : jcode 357 pc = some x := h
theorem hh357 : jhh 357 = [] := rfl
theorem js357 : unt 11 = jcls 357 := by decide +kernel
theorem c358 (pc : Nat) {x : JI} (h : cd_358.lookup pc = some x) : jcode 358 pc = some x := h
theorem hh358 : jhh 358 = [] := rfl
theorem js358 : unt 11 = jcls 358 := by decide +kernel
theorem c359 (pc : Nat) {x : JI} (h : cd_359.lookup pc = some x) : jcode 359 pc = some x := h
theorem hh359 : jhh 359 = [] := rfl
theorem js359 : unt 11 = jcls 359 := by decide +kernel
theorem c360 (pc : Nat) {x : JI} (h : cd_360.lookup pc = some x) : jcode 360 pc = some x := h
theorem hh360 : jhh 360 = [] := rfl
theorem js360 : unt 11 = jcls 360 := by decide +kernel
theorem c361 (pc : Nat) {x : JI} (h : cd_361.lookup pc = some x) : jcode 361 pc = some x := h
theorem hh361 : jhh 361 = [] := rfl
theorem js361 : unt 11 = jcls 361 := by decide +kernel
theorem c362 (pc : Nat) {x : JI} (h : cd_362.lookup pc = some x) : jcode 362 pc = some x := h
theorem hh362 : jhh 362 = [] := rfl
theorem js362 : unt 11 = jcls 362 := by decide +kernel
theorem c363 (pc : Nat) {x : JI} (h : cd_363.lookup pc = some x) : jcode 363 pc = some x := h
theorem hh363 : jhh 363 = [] := rfl
theorem js363 : unt 11 = jcls 363 := by decide +kernel
theorem c364 (pc : Nat) {x : JI} (h : cd_364.lookup pc = some x) : jcode 364 pc = some x := h
theorem hh364 : jhh 364 = [] := rfl
theorem js364 : unt 11 = jcls 364 := by decide +kernel
theorem c365 (pc : Nat) {x : JI} (h : cd_365.lookup pc = some x) : jcode 365 pc = some x := h
theorem hh365 : jhh 365 = [] := rfl
theorem js365 : unt 11 = jcls 365 := by decide +kernel
theorem c366 (pc : Nat) {x : JI} (h : cd_366.lookup pc = some x) : jcode 366 pc = some x := h
theorem hh366 : jhh 366 = [] := rfl
theorem js366 : unt 11 = jcls 366 := by decide +kernel
theorem c367 (pc : Nat) {x : JI} (h : cd_367.lookup pc = some x) : jcode 367 pc = some x := h
theorem hh367 : jhh 367 = [] := rfl
theorem js367 : unt 11 = jcls 367 := by decide +kernel
theorem c368 (pc : Nat) {x : JI} (h : cd_368.lookup pc = some x) : jcode 368 pc = some x := h
theorem hh368 : jhh 368 = [] := rfl
theorem js368 : unt 11 = jcls 368 := by decide +kernel
theorem c369 (pc : Nat) {x : JI} (h : cd_369.lookup pc = some x) : jcode 369 pc = some x := h
theorem hh369 : jhh 369 = [] := rfl
theorem js369 : unt 11 = jcls 369 := by decide +kernel
theorem c370 (pc : Nat) {x : JI} (h : cd_370.lookup pc = some x) : jcode 370 pc = some x := h
theorem hh370 : jhh 370 = [] := rfl
theorem js370 : unt 11 = jcls 370 := by decide +kernel
theorem c371 (pc : Nat) {x : JI} (h : cd_371.lookup pc = some x) : jcode 371 pc = some x := h
theorem hh371 : jhh 371 = [] := rfl
theorem js371 : unt 11 = jcls 371 := by decide +kernel
theorem c372 (pc : Nat) {x : JI} (h : cd_372.lookup pc = some x) : jcode 372 pc = some x := h
theorem hh372 : jhh 372 = [] := rfl
theorem js372 : unt 11 = jcls 372 := by decide +kernel
theorem c373 (pc : Nat) {x : JI} (h : cd_373.lookup pc = some x) : jcode 373 pc = some x := h
theorem hh373 : jhh 373 = [] := rfl
theorem js373 : unt 11 = jcls 373 := by decide +kernel
theorem c374 (pc : Nat) {x : JI} (h : cd_374.lookup pc = some x) : jcode 374 pc = some x := h
theorem hh374 : jhh 374 = [] := rfl
theorem js374 : unt 11 = jcls 374 := by decide +kernel
theorem c375 (pc : Nat) {x : JI} (h : cd_375.lookup pc = some x) : jcode 375 pc = some x := h
theorem hh375 : jhh 375 = [] := rfl
theorem js375 : unt 11 = jcls 375 := by decide +kernel
theorem c376 (pc : Nat) {x : JI} (h : cd_376.lookup pc = some x) : jcode 376 pc = some x := h
theorem hh376 : jhh 376 = [] := rfl
theorem js376 : unt 11 = jcls 376 := by decide +kernel
theorem c377 (pc : Nat) {x : JI} (h : cd_377.lookup pc = some x) : jcode 377 pc = some x := h
theorem hh377 : jhh 377 = [] := rfl
theorem js377 : unt 11 = jcls 377 := by decide +kernel
theorem c378 (pc : Nat) {x : JI} (h : cd_378.lookup pc = some x) : jcode 378 pc = some x := h
theorem hh378 : jhh 378 = [] := rfl
theorem js378 : unt 11 = jcls 378 := by decide +kernel
theorem c379 (pc : Nat) {x : JI} (h : cd_379.lookup pc = some x) : jcode 379 pc = some x := h
theorem hh379 : jhh 379 = [] := rfl
theorem js379 : unt 11 = jcls 379 := by decide +kernel
theorem c380 (pc : Nat) {x : JI} (h : cd_380.lookup pc = some x) : jcode 380 pc = some x := h
theorem hh380 : jhh 380 = [] := rfl
theorem js380 : unt 11 = jcls 380 := by decide +kernel
theorem c381 (pc : Nat) {x : JI} (h : cd_381.lookup pc = some x) : jcode 381 pc = some x := h
theorem hh381 : jhh 381 = [] := rfl
theorem js381 : unt 11 = jcls 381 := by decide +kernel
theorem c382 (pc : Nat) {x : JI} (h : cd_382.lookup pc = some x) : jcode 382 pc = some x := h
theorem hh382 : jhh 382 = [] := rfl
theorem js382 : unt 11 = jcls 382 := by decide +kernel
theorem c383 (pc : Nat) {x : JI} (h : cd_383.lookup pc = some x) : jcode 383 pc = some x := h
theorem hh383 : jhh 383 = [] := rfl
theorem js383 : unt 11 = jcls 383 := by decide +kernel
theorem c384 (pc : Nat) {x : JI} (h : cd_384.lookup pc = some x) : jcode 384 pc = some x := h
theorem hh384 : jhh 384 = [] := rfl
theorem js384 : unt 11 = jcls 384 := by decide +kernel
theorem c385 (pc : Nat) {x : JI} (h : cd_385.lookup pc = some x) : jcode 385 pc = some x := h
theorem hh385 : jhh 385 = [] := rfl
theorem js385 : unt 11 = jcls 385 := by decide +kernel
theorem c386 (pc : Nat) {x : JI} (h : cd_386.lookup pc = some x) : jcode 386 pc = some x := h
theorem hh386 : jhh 386 = [] := rfl
theorem js386 : unt 11 = jcls 386 := by decide +kernel
theorem c387 (pc : Nat) {x : JI} (h : cd_387.lookup pc = some x) : jcode 387 pc = some x := h
theorem hh387 : jhh 387 = [] := rfl
theorem js387 : unt 11 = jcls 387 := by decide +kernel
theorem c388 (pc : Nat) {x : JI} (h : cd_388.lookup pc = some x) : jcode 388 pc = some x := h
theorem hh388 : jhh 388 = [] := rfl
theorem js388 : unt 11 = jcls 388 := by decide +kernel
theorem c389 (pc : Nat) {x : JI} (h : cd_389.lookup pc = some x) : jcode 389 pc = some x := h
theorem hh389 : jhh 389 = [] := rfl
theorem js389 : unt 11 = jcls 389 := by decide +kernel
theorem c390 (pc : Nat) {x : JI} (h : cd_390.lookup pc = some x) : jcode 390 pc = some x := h
theorem hh390 : jhh 390 = [] := rfl
theorem js390 : unt 11 = jcls 390 := by decide +kernel
theorem c391 (pc : Nat) {x : JI} (h : cd_391.lookup pc = some x) : jcode 391 pc = some x := h
theorem hh391 : jhh 391 = [] := rfl
theorem js391 : unt 11 = jcls 391 := by decide +kernel
theorem c392 (pc : Nat) {x : JI} (h : cd_392.lookup pc = some x) : jcode 392 pc = some x := h
theorem hh392 : jhh 392 = [] := rfl
theorem js392 : unt 11 = jcls 392 := by decide +kernel
theorem c393 (pc : Nat) {x : JI} (h : cd_393.lookup pc = some x) : jcode 393 pc = some x := h
theorem hh393 : jhh 393 = [] := rfl
theorem js393 : unt 11 = jcls 393 := by decide +kernel
theorem c394 (pc : Nat) {x : JI} (h : cd_394.lookup pc = some x) : jcode 394 pc = some x := h
theorem hh394 : jhh 394 = [] := rfl
theorem js394 : unt 11 = jcls 394 := by decide +kernel
theorem c395 (pc : Nat) {x : JI} (h : cd_395.lookup pc = some x) : jcode 395 pc = some x := h
theorem hh395 : jhh 395 = [] := rfl
theorem js395 : unt 11 = jcls 395 := by decide +kernel
theorem c396 (pc : Nat) {x : JI} (h : cd_396.lookup pc = some x) : jcode 396 pc = some x := h
theorem hh396 : jhh 396 = [] := rfl
theorem js396 : unt 11 = jcls 396 := by decide +kernel
theorem c397 (pc : Nat) {x : JI} (h : cd_397.lookup pc = some x) : jcode 397 pc = some x := h
theorem hh397 : jhh 397 = [] := rfl
theorem js397 : unt 11 = jcls 397 := by decide +kernel
theorem c398 (pc : Nat) {x : JI} (h : cd_398.lookup pc = some x) : jcode 398 pc = some x := h
theorem hh398 : jhh 398 = [] := rfl
theorem js398 : unt 11 = jcls 398 := by decide +kernel
theorem c399 (pc : Nat) {x : JI} (h : cd_399.lookup pc = some x) : jcode 399 pc = some x := h
theorem hh399 : jhh 399 = [] := rfl
theorem js399 : unt 11 = jcls 399 := by decide +kernel
theorem c400 (pc : Nat) {x : JI} (h : cd_400.lookup pc = some x) : jcode 400 pc = some x := h
theorem hh400 : jhh 400 = [] := rfl
theorem js400 : unt 11 = jcls 400 := by decide +kernel
theorem c401 (pc : Nat) {x : JI} (h : cd_401.lookup pc = some x) : jcode 401 pc = some x := h
theorem hh401 : jhh 401 = [] := rfl
theorem js401 : unt 11 = jcls 401 := by decide +kernel
theorem c402 (pc : Nat) {x : JI} (h : cd_402.lookup pc = some x) : jcode 402 pc = some x := h
theorem hh402 : jhh 402 = [] := rfl
theorem js402 : unt 11 = jcls 402 := by decide +kernel
theorem c403 (pc : Nat) {x : JI} (h : cd_403.lookup pc = some x) : jcode 403 pc = some x := h
theorem hh403 : jhh 403 = [] := rfl
theorem js403 : unt 11 = jcls 403 := by decide +kernel
theorem c404 (pc : Nat) {x : JI} (h : cd_404.lookup pc = some x) : jcode 404 pc = some x := h
theorem hh404 : jhh 404 = [] := rfl
theorem js404 : unt 11 = jcls 404 := by decide +kernel
theorem c405 (pc : Nat) {x : JI} (h : cd_405.lookup pc = some x) : jcode 405 pc = some x := h
theorem hh405 : jhh 405 = [] := rfl
theorem js405 : unt 11 = jcls 405 := by decide +kernel
theorem c406 (pc : Nat) {x : JI} (h : cd_406.lookup pc = some x) : jcode 406 pc = some x := h
theorem hh406 : jhh 406 = [] := rfl
theorem js406 : unt 11 = jcls 406 := by decide +kernel
theorem c407 (pc : Nat) {x : JI} (h : cd_407.lookup pc = some x) : jcode 407 pc = some x := h
theorem hh407 : jhh 407 = [] := rfl
theorem js407 : unt 11 = jcls 407 := by decide +kernel
theorem c408 (pc : Nat) {x : JI} (h : cd_408.lookup pc = some x) : jcode 408 pc = some x := h
theorem hh408 : jhh 408 = [] := rfl
theorem js408 : unt 11 = jcls 408 := by decide +kernel
theorem c409 (pc : Nat) {x : JI} (h : cd_409.lookup pc = some x) : jcode 409 pc = some x := h
theorem hh409 : jhh 409 = [] := rfl
theorem js409 : unt 11 = jcls 409 := by decide +kernel
theorem c410 (pc : Nat) {x : JI} (h : cd_410.lookup pc = some x) : jcode 410 pc = some x := h
theorem hh410 : jhh 410 = [] := rfl
theorem js410 : unt 11 = jcls 410 := by decide +kernel
theorem c411 (pc : Nat) {x : JI} (h : cd_411.lookup pc = some x) : jcode 411 pc = some x := h
theorem hh411 : jhh 411 = [] := rfl
theorem js411 : unt 11 = jcls 411 := by decide +kernel
theorem c412 (pc : Nat) {x : JI} (h : cd_412.lookup pc = some x) : jcode 412 pc = some x := h
theorem hh412 : jhh 412 = [] := rfl
theorem js412 : unt 11 = jcls 412 := by decide +kernel
theorem c413 (pc : Nat) {x : JI} (h : cd_413.lookup pc = some x) : jcode 413 pc = some x := h
theorem hh413 : jhh 413 = [] := rfl
theorem js413 : unt 11 = jcls 413 := by decide +kernel
theorem c414 (pc : Nat) {x : JI} (h : cd_414.lookup pc = some x) : jcode 414 pc = some x := h
theorem hh414 : jhh 414 = [] := rfl
theorem js414 : unt 11 = jcls 414 := by decide +kernel
theorem c415 (pc : Nat) {x : JI} (h : cd_415.lookup pc = some x) : jcode 415 pc = some x := h
theorem hh415 : jhh 415 = [] := rfl
theorem js415 : unt 11 = jcls 415 := by decide +kernel
theorem c416 (pc : Nat) {x : JI} (h : cd_416.lookup pc = some x) : jcode 416 pc = some x := h
theorem hh416 : jhh 416 = [] := rfl
theorem js416 : unt 11 = jcls 416 := by decide +kernel
theorem c417 (pc : Nat) {x : JI} (h : cd_417.lookup pc = some x) : jcode 417 pc = some x := h
theorem hh417 : jhh 417 = [] := rfl
theorem js417 : unt 11 = jcls 417 := by decide +kernel
theorem c418 (pc : Nat) {x : JI} (h : cd_418.lookup pc = some x) : jcode 418 pc = some x := h
theorem hh418 : jhh 418 = [] := rfl
theorem js418 : unt 11 = jcls 418 := by decide +kernel
theorem c419 (pc : Nat) {x : JI} (h : cd_419.lookup pc = some x) : jcode 419 pc = some x := h
theorem hh419 : jhh 419 = [] := rfl
theorem js419 : unt 11 = jcls 419 := by decide +kernel
theorem c420 (pc : Nat) {x : JI} (h : cd_420.lookup pc = some x) : jcode 420 pc = some x := h
theorem hh420 : jhh 420 = [] := rfl
theorem js420 : unt 11 = jcls 420 := by decide +kernel
theorem c421 (pc : Nat) {x : JI} (h : cd_421.lookup pc = some x) : jcode 421 pc = some x := h
theorem hh421 : jhh 421 = [] := rfl
theorem js421 : unt 11 = jcls 421 := by decide +kernel
theorem c422 (pc : Nat) {x : JI} (h : cd_422.lookup pc = some x) : jcode 422 pc = some x := h
theorem hh422 : jhh 422 = [] := rfl
theorem js422 : unt 11 = jcls 422 := by decide +kernel
theorem c423 (pc : Nat) {x : JI} (h : cd_423.lookup pc = some x) : jcode 423 pc = some x := h
theorem hh423 : jhh 423 = [] := rfl
theorem js423 : unt 11 = jcls 423 := by decide +kernel
theorem c424 (pc : Nat) {x : JI} (h : cd_424.lookup pc = some x) : jcode 424 pc = some x := h
theorem hh424 : jhh 424 = [] := rfl
theorem js424 : unt 11 = jcls 424 := by decide +kernel
theorem c425 (pc : Nat) {x : JI} (h : cd_425.lookup pc = some x) : jcode 425 pc = some x := h
theorem hh425 : jhh 425 = [] := rfl
theorem js425 : unt 11 = jcls 425 := by decide +kernel
theorem c426 (pc : Nat) {x : JI} (h : cd_426.lookup pc = some x) : jcode 426 pc = some x := h
theorem hh426 : jhh 426 = [] := rfl
theorem c427 (pc : Nat) {x : JI} (h : cd_427.lookup pc = some x) : jcode 427 pc = some x := h
theorem hh427 : jhh 427 = [] := rfl
theorem js427 : unt 11 = jcls 427 := by decide +kernel
theorem c6 (pc : Nat) {x : JI} (h : cd_6.lookup pc = some x) : jcode 6 pc = some x := h
theorem hh6 : jhh 6 = [] := rfl
theorem c27 (pc : Nat) {x : JI} (h : cd_27.lookup pc = some x) : jcode 27 pc = some x := h
theorem hh27 : jhh 27 = [] := rfl
theorem c29 (pc : Nat) {x : JI} (h : cd_29.lookup pc = some x) : jcode 29 pc = some x := h
theorem hh29 : jhh 29 = [] := rfl
theorem c79 (pc : Nat) {x : JI} (h : cd_79.lookup pc = some x) : jcode 79 pc = some x := h
theorem hh79 : jhh 79 = [] := rfl
theorem c428 (pc : Nat) {x : JI} (h : cd_428.lookup pc = some x) : jcode 428 pc = some x := h
theorem hh428 : jhh 428 = [] := rfl
