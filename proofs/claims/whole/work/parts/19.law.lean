def tL_law : List CI := [
  (0, 3, .new 7, 0, 0, 0, .null), (3, 1, .dup, 0, 0, 0, .null), (4, 3, .invokespecial 9, 0, 0, 0, .null), (7, 1, .astore_n 1, 1, 0, 0, .null), (8, 3, .new 10, 0, 0, 0, .null), 
  (11, 1, .dup, 0, 0, 0, .null), (12, 3, .invokespecial 12, 0, 0, 0, .null), (15, 1, .astore_n 2, 2, 0, 0, .null), (16, 1, .iconst 0, 0, 0, 0, .int 0), 
  (17, 1, .istore_n 3, 3, 0, 0, .null), (18, 1, .iload_n 3, 3, 0, 0, .null), (19, 1, .aload_n 0, 0, 0, 0, .null), (20, 1, .arraylength, 0, 0, 0, .null), 
  (21, 1, .iconst 4, 0, 0, 0, .int 4), (22, 1, .isub, 0, 0, 0, .null), (23, 3, .if_icmp .gt 859, 882, 0, 0, .null), (26, 1, .aload_n 0, 0, 0, 0, .null), 
  (27, 1, .iload_n 3, 3, 0, 0, .null), (28, 1, .iaload, 0, 0, 0, .null), (29, 2, .bipush 31, 0, 0, 0, .int 31), (31, 1, .iand, 0, 0, 0, .null), 
  (32, 128, .tableswitch 844 0 27 #[128, 151, 164, 177, 190, 223, 256, 289, 323, 366, 399, 432, 466, 499, 512, 535, 568, 591, 604, 617, 630, 653, 676, 709, 742, 775, 798, 821], 0, 0, 0, .null), 
  (160, 1, .aload_n 1, 1, 0, 0, .null), (161, 1, .aload_n 0, 0, 0, 0, .null), (162, 1, .iload_n 3, 3, 0, 0, .null), (163, 1, .iconst 1, 0, 0, 0, .int 1), 
  (164, 1, .iadd, 0, 0, 0, .null), (165, 1, .iaload, 0, 0, 0, .null), (166, 3, .invokevirtual 13, 0, 0, 0, .null), (169, 1, .aload_n 2, 2, 0, 0, .null), 
  (170, 1, .aload_n 0, 0, 0, 0, .null), (171, 1, .iload_n 3, 3, 0, 0, .null), (172, 1, .iconst 1, 0, 0, 0, .int 1), (173, 1, .iadd, 0, 0, 0, .null), 
  (174, 1, .iaload, 0, 0, 0, .null), (175, 3, .invokevirtual 17, 0, 0, 0, .null), (178, 3, .if_icmp .eq 698, 876, 0, 0, .null), (181, 1, .iconst 0, 0, 0, 0, .int 0), 
  (182, 1, .ireturn, 0, 0, 0, .null), (183, 1, .aload_n 1, 1, 0, 0, .null), (184, 3, .invokevirtual 18, 0, 0, 0, .null), (187, 1, .aload_n 2, 2, 0, 0, .null), 
  (188, 3, .invokevirtual 22, 0, 0, 0, .null), (191, 3, .if_icmp .eq 685, 876, 0, 0, .null), (194, 1, .iconst 0, 0, 0, 0, .int 0), (195, 1, .ireturn, 0, 0, 0, .null), 
  (196, 1, .aload_n 1, 1, 0, 0, .null), (197, 3, .invokevirtual 23, 0, 0, 0, .null), (200, 1, .aload_n 2, 2, 0, 0, .null), (201, 3, .invokevirtual 26, 0, 0, 0, .null), 
  (204, 3, .if_icmp .eq 672, 876, 0, 0, .null), (207, 1, .iconst 0, 0, 0, 0, .int 0), (208, 1, .ireturn, 0, 0, 0, .null), (209, 1, .aload_n 1, 1, 0, 0, .null), 
  (210, 3, .invokevirtual 27, 0, 0, 0, .null), (213, 1, .aload_n 2, 2, 0, 0, .null), (214, 3, .invokevirtual 30, 0, 0, 0, .null), (217, 3, .if_icmp .eq 659, 876, 0, 0, .null), 
  (220, 1, .iconst 0, 0, 0, 0, .int 0), (221, 1, .ireturn, 0, 0, 0, .null), (222, 1, .aload_n 1, 1, 0, 0, .null), (223, 1, .aload_n 0, 0, 0, 0, .null), 
  (224, 1, .iload_n 3, 3, 0, 0, .null), (225, 1, .iconst 1, 0, 0, 0, .int 1), (226, 1, .iadd, 0, 0, 0, .null), (227, 1, .iaload, 0, 0, 0, .null), 
  (228, 1, .aload_n 0, 0, 0, 0, .null), (229, 1, .iload_n 3, 3, 0, 0, .null), (230, 1, .iconst 2, 0, 0, 0, .int 2), (231, 1, .iadd, 0, 0, 0, .null), 
  (232, 1, .iaload, 0, 0, 0, .null), (233, 3, .invokevirtual 31, 0, 0, 0, .null), (236, 1, .aload_n 2, 2, 0, 0, .null), (237, 1, .aload_n 0, 0, 0, 0, .null), 
  (238, 1, .iload_n 3, 3, 0, 0, .null), (239, 1, .iconst 1, 0, 0, 0, .int 1), (240, 1, .iadd, 0, 0, 0, .null), (241, 1, .iaload, 0, 0, 0, .null), 
  (242, 1, .aload_n 0, 0, 0, 0, .null), (243, 1, .iload_n 3, 3, 0, 0, .null), (244, 1, .iconst 2, 0, 0, 0, .int 2), (245, 1, .iadd, 0, 0, 0, .null), 
  (246, 1, .iaload, 0, 0, 0, .null), (247, 3, .invokevirtual 35, 0, 0, 0, .null), (250, 3, .if_icmp .eq 626, 876, 0, 0, .null), (253, 1, .iconst 0, 0, 0, 0, .int 0), 
  (254, 1, .ireturn, 0, 0, 0, .null), (255, 1, .aload_n 1, 1, 0, 0, .null), (256, 1, .aload_n 0, 0, 0, 0, .null), (257, 1, .iload_n 3, 3, 0, 0, .null), 
  (258, 1, .iconst 1, 0, 0, 0, .int 1), (259, 1, .iadd, 0, 0, 0, .null), (260, 1, .iaload, 0, 0, 0, .null), (261, 1, .aload_n 0, 0, 0, 0, .null), 
  (262, 1, .iload_n 3, 3, 0, 0, .null), (263, 1, .iconst 2, 0, 0, 0, .int 2), (264, 1, .iadd, 0, 0, 0, .null), (265, 1, .iaload, 0, 0, 0, .null), 
  (266, 3, .invokevirtual 36, 0, 0, 0, .null), (269, 1, .aload_n 2, 2, 0, 0, .null), (270, 1, .aload_n 0, 0, 0, 0, .null), (271, 1, .iload_n 3, 3, 0, 0, .null), 
  (272, 1, .iconst 1, 0, 0, 0, .int 1), (273, 1, .iadd, 0, 0, 0, .null), (274, 1, .iaload, 0, 0, 0, .null), (275, 1, .aload_n 0, 0, 0, 0, .null), 
  (276, 1, .iload_n 3, 3, 0, 0, .null), (277, 1, .iconst 2, 0, 0, 0, .int 2), (278, 1, .iadd, 0, 0, 0, .null), (279, 1, .iaload, 0, 0, 0, .null), 
  (280, 3, .invokevirtual 39, 0, 0, 0, .null), (283, 3, .if_icmp .eq 593, 876, 0, 0, .null), (286, 1, .iconst 0, 0, 0, 0, .int 0), (287, 1, .ireturn, 0, 0, 0, .null), 
  (288, 1, .aload_n 1, 1, 0, 0, .null), (289, 1, .aload_n 0, 0, 0, 0, .null), (290, 1, .iload_n 3, 3, 0, 0, .null), (291, 1, .iconst 1, 0, 0, 0, .int 1), 
  (292, 1, .iadd, 0, 0, 0, .null), (293, 1, .iaload, 0, 0, 0, .null), (294, 1, .aload_n 0, 0, 0, 0, .null), (295, 1, .iload_n 3, 3, 0, 0, .null), 
  (296, 1, .iconst 2, 0, 0, 0, .int 2), (297, 1, .iadd, 0, 0, 0, .null), (298, 1, .iaload, 0, 0, 0, .null), (299, 3, .invokevirtual 40, 0, 0, 0, .null), 
  (302, 1, .aload_n 2, 2, 0, 0, .null), (303, 1, .aload_n 0, 0, 0, 0, .null), (304, 1, .iload_n 3, 3, 0, 0, .null), (305, 1, .iconst 1, 0, 0, 0, .int 1), 
  (306, 1, .iadd, 0, 0, 0, .null), (307, 1, .iaload, 0, 0, 0, .null), (308, 1, .aload_n 0, 0, 0, 0, .null), (309, 1, .iload_n 3, 3, 0, 0, .null), 
  (310, 1, .iconst 2, 0, 0, 0, .int 2), (311, 1, .iadd, 0, 0, 0, .null), (312, 1, .iaload, 0, 0, 0, .null), (313, 3, .invokevirtual 43, 0, 0, 0, .null), 
  (316, 3, .if_icmp .eq 560, 876, 0, 0, .null), (319, 1, .iconst 0, 0, 0, 0, .int 0), (320, 1, .ireturn, 0, 0, 0, .null), (321, 1, .aload_n 1, 1, 0, 0, .null), 
  (322, 1, .aload_n 0, 0, 0, 0, .null), (323, 1, .iload_n 3, 3, 0, 0, .null), (324, 1, .iconst 1, 0, 0, 0, .int 1), (325, 1, .iadd, 0, 0, 0, .null), 
  (326, 1, .iaload, 0, 0, 0, .null), (327, 1, .aload_n 0, 0, 0, 0, .null), (328, 1, .iload_n 3, 3, 0, 0, .null), (329, 1, .iconst 2, 0, 0, 0, .int 2), 
  (330, 1, .iadd, 0, 0, 0, .null), (331, 1, .iaload, 0, 0, 0, .null), (332, 3, .invokevirtual 44, 0, 0, 0, .null), (335, 1, .aload_n 2, 2, 0, 0, .null), 
  (336, 1, .aload_n 0, 0, 0, 0, .null), (337, 1, .iload_n 3, 3, 0, 0, .null), (338, 1, .iconst 1, 0, 0, 0, .int 1), (339, 1, .iadd, 0, 0, 0, .null), 
  (340, 1, .iaload, 0, 0, 0, .null), (341, 1, .aload_n 0, 0, 0, 0, .null), (342, 1, .iload_n 3, 3, 0, 0, .null), (343, 1, .iconst 2, 0, 0, 0, .int 2), 
  (344, 1, .iadd, 0, 0, 0, .null), (345, 1, .iaload, 0, 0, 0, .null), (346, 3, .invokevirtual 48, 0, 0, 0, .null), (349, 1, .lcmp, 0, 0, 0, .null), 
  (350, 3, .ifCond .eq 526, 876, 0, 0, .null), (353, 1, .iconst 0, 0, 0, 0, .int 0), (354, 1, .ireturn, 0, 0, 0, .null), (355, 1, .aload_n 1, 1, 0, 0, .null), 
  (356, 1, .aload_n 0, 0, 0, 0, .null), (357, 1, .iload_n 3, 3, 0, 0, .null), (358, 1, .iconst 1, 0, 0, 0, .int 1), (359, 1, .iadd, 0, 0, 0, .null), 
  (360, 1, .iaload, 0, 0, 0, .null), (361, 1, .aload_n 0, 0, 0, 0, .null), (362, 1, .iload_n 3, 3, 0, 0, .null), (363, 1, .iconst 2, 0, 0, 0, .int 2), 
  (364, 1, .iadd, 0, 0, 0, .null), (365, 1, .iaload, 0, 0, 0, .null), (366, 1, .aload_n 0, 0, 0, 0, .null), (367, 1, .iload_n 3, 3, 0, 0, .null), 
  (368, 1, .iconst 3, 0, 0, 0, .int 3), (369, 1, .iadd, 0, 0, 0, .null), (370, 1, .iaload, 0, 0, 0, .null), (371, 3, .invokevirtual 49, 0, 0, 0, .null), 
  (374, 1, .aload_n 2, 2, 0, 0, .null), (375, 1, .aload_n 0, 0, 0, 0, .null), (376, 1, .iload_n 3, 3, 0, 0, .null), (377, 1, .iconst 1, 0, 0, 0, .int 1), 
  (378, 1, .iadd, 0, 0, 0, .null), (379, 1, .iaload, 0, 0, 0, .null), (380, 1, .aload_n 0, 0, 0, 0, .null), (381, 1, .iload_n 3, 3, 0, 0, .null), 
  (382, 1, .iconst 2, 0, 0, 0, .int 2), (383, 1, .iadd, 0, 0, 0, .null), (384, 1, .iaload, 0, 0, 0, .null), (385, 1, .aload_n 0, 0, 0, 0, .null), 
  (386, 1, .iload_n 3, 3, 0, 0, .null), (387, 1, .iconst 3, 0, 0, 0, .int 3), (388, 1, .iadd, 0, 0, 0, .null), (389, 1, .iaload, 0, 0, 0, .null), 
  (390, 3, .invokevirtual 53, 0, 0, 0, .null), (393, 3, .if_icmp .eq 483, 876, 0, 0, .null), (396, 1, .iconst 0, 0, 0, 0, .int 0), (397, 1, .ireturn, 0, 0, 0, .null), 
  (398, 1, .aload_n 1, 1, 0, 0, .null), (399, 1, .aload_n 0, 0, 0, 0, .null), (400, 1, .iload_n 3, 3, 0, 0, .null), (401, 1, .iconst 1, 0, 0, 0, .int 1), 
  (402, 1, .iadd, 0, 0, 0, .null), (403, 1, .iaload, 0, 0, 0, .null), (404, 1, .aload_n 0, 0, 0, 0, .null), (405, 1, .iload_n 3, 3, 0, 0, .null), 
  (406, 1, .iconst 2, 0, 0, 0, .int 2), (407, 1, .iadd, 0, 0, 0, .null), (408, 1, .iaload, 0, 0, 0, .null), (409, 3, .invokevirtual 54, 0, 0, 0, .null), 
  (412, 1, .aload_n 2, 2, 0, 0, .null), (413, 1, .aload_n 0, 0, 0, 0, .null), (414, 1, .iload_n 3, 3, 0, 0, .null), (415, 1, .iconst 1, 0, 0, 0, .int 1), 
  (416, 1, .iadd, 0, 0, 0, .null), (417, 1, .iaload, 0, 0, 0, .null), (418, 1, .aload_n 0, 0, 0, 0, .null), (419, 1, .iload_n 3, 3, 0, 0, .null), 
  (420, 1, .iconst 2, 0, 0, 0, .int 2), (421, 1, .iadd, 0, 0, 0, .null), (422, 1, .iaload, 0, 0, 0, .null), (423, 3, .invokevirtual 57, 0, 0, 0, .null), 
  (426, 3, .if_icmp .eq 450, 876, 0, 0, .null), (429, 1, .iconst 0, 0, 0, 0, .int 0), (430, 1, .ireturn, 0, 0, 0, .null), (431, 1, .aload_n 1, 1, 0, 0, .null), 
  (432, 1, .aload_n 0, 0, 0, 0, .null), (433, 1, .iload_n 3, 3, 0, 0, .null), (434, 1, .iconst 1, 0, 0, 0, .int 1), (435, 1, .iadd, 0, 0, 0, .null), 
  (436, 1, .iaload, 0, 0, 0, .null), (437, 1, .aload_n 0, 0, 0, 0, .null), (438, 1, .iload_n 3, 3, 0, 0, .null), (439, 1, .iconst 2, 0, 0, 0, .int 2), 
  (440, 1, .iadd, 0, 0, 0, .null), (441, 1, .iaload, 0, 0, 0, .null), (442, 3, .invokevirtual 58, 0, 0, 0, .null), (445, 1, .aload_n 2, 2, 0, 0, .null), 
  (446, 1, .aload_n 0, 0, 0, 0, .null), (447, 1, .iload_n 3, 3, 0, 0, .null), (448, 1, .iconst 1, 0, 0, 0, .int 1), (449, 1, .iadd, 0, 0, 0, .null), 
  (450, 1, .iaload, 0, 0, 0, .null), (451, 1, .aload_n 0, 0, 0, 0, .null), (452, 1, .iload_n 3, 3, 0, 0, .null), (453, 1, .iconst 2, 0, 0, 0, .int 2), 
  (454, 1, .iadd, 0, 0, 0, .null), (455, 1, .iaload, 0, 0, 0, .null), (456, 3, .invokevirtual 61, 0, 0, 0, .null), (459, 3, .if_icmp .eq 417, 876, 0, 0, .null), 
  (462, 1, .iconst 0, 0, 0, 0, .int 0), (463, 1, .ireturn, 0, 0, 0, .null), (464, 1, .aload_n 1, 1, 0, 0, .null), (465, 1, .aload_n 0, 0, 0, 0, .null), 
  (466, 1, .iload_n 3, 3, 0, 0, .null), (467, 1, .iconst 1, 0, 0, 0, .int 1), (468, 1, .iadd, 0, 0, 0, .null), (469, 1, .iaload, 0, 0, 0, .null), 
  (470, 1, .aload_n 0, 0, 0, 0, .null), (471, 1, .iload_n 3, 3, 0, 0, .null), (472, 1, .iconst 2, 0, 0, 0, .int 2), (473, 1, .iadd, 0, 0, 0, .null), 
  (474, 1, .iaload, 0, 0, 0, .null), (475, 3, .invokevirtual 62, 0, 0, 0, .null), (478, 1, .aload_n 2, 2, 0, 0, .null), (479, 1, .aload_n 0, 0, 0, 0, .null), 
  (480, 1, .iload_n 3, 3, 0, 0, .null), (481, 1, .iconst 1, 0, 0, 0, .int 1), (482, 1, .iadd, 0, 0, 0, .null), (483, 1, .iaload, 0, 0, 0, .null), 
  (484, 1, .aload_n 0, 0, 0, 0, .null), (485, 1, .iload_n 3, 3, 0, 0, .null), (486, 1, .iconst 2, 0, 0, 0, .int 2), (487, 1, .iadd, 0, 0, 0, .null), 
  (488, 1, .iaload, 0, 0, 0, .null), (489, 3, .invokevirtual 65, 0, 0, 0, .null), (492, 1, .lcmp, 0, 0, 0, .null), (493, 3, .ifCond .eq 383, 876, 0, 0, .null), 
  (496, 1, .iconst 0, 0, 0, 0, .int 0), (497, 1, .ireturn, 0, 0, 0, .null), (498, 1, .aload_n 1, 1, 0, 0, .null), (499, 1, .aload_n 0, 0, 0, 0, .null), 
  (500, 1, .iload_n 3, 3, 0, 0, .null), (501, 1, .iconst 1, 0, 0, 0, .int 1), (502, 1, .iadd, 0, 0, 0, .null), (503, 1, .iaload, 0, 0, 0, .null), 
  (504, 1, .aload_n 0, 0, 0, 0, .null), (505, 1, .iload_n 3, 3, 0, 0, .null), (506, 1, .iconst 2, 0, 0, 0, .int 2), (507, 1, .iadd, 0, 0, 0, .null), 
  (508, 1, .iaload, 0, 0, 0, .null), (509, 3, .invokevirtual 66, 0, 0, 0, .null), (512, 1, .aload_n 2, 2, 0, 0, .null), (513, 1, .aload_n 0, 0, 0, 0, .null), 
  (514, 1, .iload_n 3, 3, 0, 0, .null), (515, 1, .iconst 1, 0, 0, 0, .int 1), (516, 1, .iadd, 0, 0, 0, .null), (517, 1, .iaload, 0, 0, 0, .null), 
  (518, 1, .aload_n 0, 0, 0, 0, .null), (519, 1, .iload_n 3, 3, 0, 0, .null), (520, 1, .iconst 2, 0, 0, 0, .int 2), (521, 1, .iadd, 0, 0, 0, .null), 
  (522, 1, .iaload, 0, 0, 0, .null), (523, 3, .invokevirtual 69, 0, 0, 0, .null), (526, 3, .if_icmp .eq 350, 876, 0, 0, .null), (529, 1, .iconst 0, 0, 0, 0, .int 0), 
  (530, 1, .ireturn, 0, 0, 0, .null), (531, 1, .aload_n 1, 1, 0, 0, .null), (532, 3, .invokevirtual 70, 0, 0, 0, .null), (535, 1, .aload_n 2, 2, 0, 0, .null), 
  (536, 3, .invokevirtual 73, 0, 0, 0, .null), (539, 3, .if_icmp .eq 337, 876, 0, 0, .null), (542, 1, .iconst 0, 0, 0, 0, .int 0), (543, 1, .ireturn, 0, 0, 0, .null), 
  (544, 1, .aload_n 1, 1, 0, 0, .null), (545, 1, .aload_n 0, 0, 0, 0, .null), (546, 1, .iload_n 3, 3, 0, 0, .null), (547, 1, .iconst 1, 0, 0, 0, .int 1), 
  (548, 1, .iadd, 0, 0, 0, .null), (549, 1, .iaload, 0, 0, 0, .null), (550, 3, .invokevirtual 74, 0, 0, 0, .null), (553, 1, .aload_n 2, 2, 0, 0, .null), 
  (554, 1, .aload_n 0, 0, 0, 0, .null), (555, 1, .iload_n 3, 3, 0, 0, .null), (556, 1, .iconst 1, 0, 0, 0, .int 1), (557, 1, .iadd, 0, 0, 0, .null), 
  (558, 1, .iaload, 0, 0, 0, .null), (559, 3, .invokevirtual 77, 0, 0, 0, .null), (562, 3, .if_icmp .eq 314, 876, 0, 0, .null), (565, 1, .iconst 0, 0, 0, 0, .int 0), 
  (566, 1, .ireturn, 0, 0, 0, .null), (567, 1, .aload_n 1, 1, 0, 0, .null), (568, 1, .aload_n 0, 0, 0, 0, .null), (569, 1, .iload_n 3, 3, 0, 0, .null), 
  (570, 1, .iconst 1, 0, 0, 0, .int 1), (571, 1, .iadd, 0, 0, 0, .null), (572, 1, .iaload, 0, 0, 0, .null), (573, 1, .aload_n 0, 0, 0, 0, .null), 
  (574, 1, .iload_n 3, 3, 0, 0, .null), (575, 1, .iconst 2, 0, 0, 0, .int 2), (576, 1, .iadd, 0, 0, 0, .null), (577, 1, .iaload, 0, 0, 0, .null), 
  (578, 3, .invokevirtual 78, 0, 0, 0, .null), (581, 1, .aload_n 2, 2, 0, 0, .null), (582, 1, .aload_n 0, 0, 0, 0, .null), (583, 1, .iload_n 3, 3, 0, 0, .null), 
  (584, 1, .iconst 1, 0, 0, 0, .int 1), (585, 1, .iadd, 0, 0, 0, .null), (586, 1, .iaload, 0, 0, 0, .null), (587, 1, .aload_n 0, 0, 0, 0, .null), 
  (588, 1, .iload_n 3, 3, 0, 0, .null), (589, 1, .iconst 2, 0, 0, 0, .int 2), (590, 1, .iadd, 0, 0, 0, .null), (591, 1, .iaload, 0, 0, 0, .null), 
  (592, 3, .invokevirtual 81, 0, 0, 0, .null), (595, 3, .if_icmp .eq 281, 876, 0, 0, .null), (598, 1, .iconst 0, 0, 0, 0, .int 0), (599, 1, .ireturn, 0, 0, 0, .null), 
  (600, 1, .aload_n 1, 1, 0, 0, .null), (601, 1, .aload_n 0, 0, 0, 0, .null), (602, 1, .iload_n 3, 3, 0, 0, .null), (603, 1, .iconst 1, 0, 0, 0, .int 1), 
  (604, 1, .iadd, 0, 0, 0, .null), (605, 1, .iaload, 0, 0, 0, .null), (606, 3, .invokevirtual 82, 0, 0, 0, .null), (609, 1, .aload_n 2, 2, 0, 0, .null), 
  (610, 1, .aload_n 0, 0, 0, 0, .null), (611, 1, .iload_n 3, 3, 0, 0, .null), (612, 1, .iconst 1, 0, 0, 0, .int 1), (613, 1, .iadd, 0, 0, 0, .null), 
  (614, 1, .iaload, 0, 0, 0, .null), (615, 3, .invokevirtual 85, 0, 0, 0, .null), (618, 3, .if_icmp .eq 258, 876, 0, 0, .null), (621, 1, .iconst 0, 0, 0, 0, .int 0), 
  (622, 1, .ireturn, 0, 0, 0, .null), (623, 1, .aload_n 1, 1, 0, 0, .null), (624, 3, .invokevirtual 86, 0, 0, 0, .null), (627, 1, .aload_n 2, 2, 0, 0, .null), 
  (628, 3, .invokevirtual 89, 0, 0, 0, .null), (631, 3, .if_icmp .eq 245, 876, 0, 0, .null), (634, 1, .iconst 0, 0, 0, 0, .int 0), (635, 1, .ireturn, 0, 0, 0, .null), 
  (636, 1, .aload_n 1, 1, 0, 0, .null), (637, 3, .invokevirtual 90, 0, 0, 0, .null), (640, 1, .aload_n 2, 2, 0, 0, .null), (641, 3, .invokevirtual 93, 0, 0, 0, .null), 
  (644, 3, .if_icmp .eq 232, 876, 0, 0, .null), (647, 1, .iconst 0, 0, 0, 0, .int 0), (648, 1, .ireturn, 0, 0, 0, .null), (649, 1, .aload_n 1, 1, 0, 0, .null), 
  (650, 3, .invokevirtual 94, 0, 0, 0, .null), (653, 1, .aload_n 2, 2, 0, 0, .null), (654, 3, .invokevirtual 97, 0, 0, 0, .null), (657, 3, .if_icmp .eq 219, 876, 0, 0, .null), 
  (660, 1, .iconst 0, 0, 0, 0, .int 0), (661, 1, .ireturn, 0, 0, 0, .null), (662, 1, .aload_n 1, 1, 0, 0, .null), (663, 1, .aload_n 0, 0, 0, 0, .null), 
  (664, 1, .iload_n 3, 3, 0, 0, .null), (665, 1, .iconst 1, 0, 0, 0, .int 1), (666, 1, .iadd, 0, 0, 0, .null), (667, 1, .iaload, 0, 0, 0, .null), 
  (668, 3, .invokevirtual 98, 0, 0, 0, .null), (671, 1, .aload_n 2, 2, 0, 0, .null), (672, 1, .aload_n 0, 0, 0, 0, .null), (673, 1, .iload_n 3, 3, 0, 0, .null), 
  (674, 1, .iconst 1, 0, 0, 0, .int 1), (675, 1, .iadd, 0, 0, 0, .null), (676, 1, .iaload, 0, 0, 0, .null), (677, 3, .invokevirtual 101, 0, 0, 0, .null), 
  (680, 3, .if_icmp .eq 196, 876, 0, 0, .null), (683, 1, .iconst 0, 0, 0, 0, .int 0), (684, 1, .ireturn, 0, 0, 0, .null), (685, 1, .aload_n 1, 1, 0, 0, .null), 
  (686, 1, .aload_n 0, 0, 0, 0, .null), (687, 1, .iload_n 3, 3, 0, 0, .null), (688, 1, .iconst 1, 0, 0, 0, .int 1), (689, 1, .iadd, 0, 0, 0, .null), 
  (690, 1, .iaload, 0, 0, 0, .null), (691, 3, .invokevirtual 102, 0, 0, 0, .null), (694, 1, .aload_n 2, 2, 0, 0, .null), (695, 1, .aload_n 0, 0, 0, 0, .null), 
  (696, 1, .iload_n 3, 3, 0, 0, .null), (697, 1, .iconst 1, 0, 0, 0, .int 1), (698, 1, .iadd, 0, 0, 0, .null), (699, 1, .iaload, 0, 0, 0, .null), 
  (700, 3, .invokevirtual 105, 0, 0, 0, .null), (703, 3, .if_icmp .eq 173, 876, 0, 0, .null), (706, 1, .iconst 0, 0, 0, 0, .int 0), (707, 1, .ireturn, 0, 0, 0, .null), 
  (708, 1, .aload_n 1, 1, 0, 0, .null), (709, 1, .aload_n 0, 0, 0, 0, .null), (710, 1, .iload_n 3, 3, 0, 0, .null), (711, 1, .iconst 1, 0, 0, 0, .int 1), 
  (712, 1, .iadd, 0, 0, 0, .null), (713, 1, .iaload, 0, 0, 0, .null), (714, 1, .aload_n 0, 0, 0, 0, .null), (715, 1, .iload_n 3, 3, 0, 0, .null), 
  (716, 1, .iconst 2, 0, 0, 0, .int 2), (717, 1, .iadd, 0, 0, 0, .null), (718, 1, .iaload, 0, 0, 0, .null), (719, 3, .invokevirtual 106, 0, 0, 0, .null), 
  (722, 1, .aload_n 2, 2, 0, 0, .null), (723, 1, .aload_n 0, 0, 0, 0, .null), (724, 1, .iload_n 3, 3, 0, 0, .null), (725, 1, .iconst 1, 0, 0, 0, .int 1), 
  (726, 1, .iadd, 0, 0, 0, .null), (727, 1, .iaload, 0, 0, 0, .null), (728, 1, .aload_n 0, 0, 0, 0, .null), (729, 1, .iload_n 3, 3, 0, 0, .null), 
  (730, 1, .iconst 2, 0, 0, 0, .int 2), (731, 1, .iadd, 0, 0, 0, .null), (732, 1, .iaload, 0, 0, 0, .null), (733, 3, .invokevirtual 109, 0, 0, 0, .null), 
  (736, 3, .if_icmp .eq 140, 876, 0, 0, .null), (739, 1, .iconst 0, 0, 0, 0, .int 0), (740, 1, .ireturn, 0, 0, 0, .null), (741, 1, .aload_n 1, 1, 0, 0, .null), 
  (742, 1, .aload_n 0, 0, 0, 0, .null), (743, 1, .iload_n 3, 3, 0, 0, .null), (744, 1, .iconst 1, 0, 0, 0, .int 1), (745, 1, .iadd, 0, 0, 0, .null), 
  (746, 1, .iaload, 0, 0, 0, .null), (747, 1, .aload_n 0, 0, 0, 0, .null), (748, 1, .iload_n 3, 3, 0, 0, .null), (749, 1, .iconst 2, 0, 0, 0, .int 2), 
  (750, 1, .iadd, 0, 0, 0, .null), (751, 1, .iaload, 0, 0, 0, .null), (752, 3, .invokevirtual 110, 0, 0, 0, .null), (755, 1, .aload_n 2, 2, 0, 0, .null), 
  (756, 1, .aload_n 0, 0, 0, 0, .null), (757, 1, .iload_n 3, 3, 0, 0, .null), (758, 1, .iconst 1, 0, 0, 0, .int 1), (759, 1, .iadd, 0, 0, 0, .null), 
  (760, 1, .iaload, 0, 0, 0, .null), (761, 1, .aload_n 0, 0, 0, 0, .null), (762, 1, .iload_n 3, 3, 0, 0, .null), (763, 1, .iconst 2, 0, 0, 0, .int 2), 
  (764, 1, .iadd, 0, 0, 0, .null), (765, 1, .iaload, 0, 0, 0, .null), (766, 3, .invokevirtual 113, 0, 0, 0, .null), (769, 3, .if_icmp .eq 107, 876, 0, 0, .null), 
  (772, 1, .iconst 0, 0, 0, 0, .int 0), (773, 1, .ireturn, 0, 0, 0, .null), (774, 1, .aload_n 1, 1, 0, 0, .null), (775, 1, .aload_n 0, 0, 0, 0, .null), 
  (776, 1, .iload_n 3, 3, 0, 0, .null), (777, 1, .iconst 1, 0, 0, 0, .int 1), (778, 1, .iadd, 0, 0, 0, .null), (779, 1, .iaload, 0, 0, 0, .null), 
  (780, 1, .aload_n 0, 0, 0, 0, .null), (781, 1, .iload_n 3, 3, 0, 0, .null), (782, 1, .iconst 2, 0, 0, 0, .int 2), (783, 1, .iadd, 0, 0, 0, .null), 
  (784, 1, .iaload, 0, 0, 0, .null), (785, 3, .invokevirtual 114, 0, 0, 0, .null), (788, 1, .aload_n 2, 2, 0, 0, .null), (789, 1, .aload_n 0, 0, 0, 0, .null), 
  (790, 1, .iload_n 3, 3, 0, 0, .null), (791, 1, .iconst 1, 0, 0, 0, .int 1), (792, 1, .iadd, 0, 0, 0, .null), (793, 1, .iaload, 0, 0, 0, .null), 
  (794, 1, .aload_n 0, 0, 0, 0, .null), (795, 1, .iload_n 3, 3, 0, 0, .null), (796, 1, .iconst 2, 0, 0, 0, .int 2), (797, 1, .iadd, 0, 0, 0, .null), 
  (798, 1, .iaload, 0, 0, 0, .null), (799, 3, .invokevirtual 117, 0, 0, 0, .null), (802, 3, .if_icmp .eq 74, 876, 0, 0, .null), (805, 1, .iconst 0, 0, 0, 0, .int 0), 
  (806, 1, .ireturn, 0, 0, 0, .null), (807, 1, .aload_n 1, 1, 0, 0, .null), (808, 1, .aload_n 0, 0, 0, 0, .null), (809, 1, .iload_n 3, 3, 0, 0, .null), 
  (810, 1, .iconst 1, 0, 0, 0, .int 1), (811, 1, .iadd, 0, 0, 0, .null), (812, 1, .iaload, 0, 0, 0, .null), (813, 3, .invokevirtual 118, 0, 0, 0, .null), 
  (816, 1, .aload_n 2, 2, 0, 0, .null), (817, 1, .aload_n 0, 0, 0, 0, .null), (818, 1, .iload_n 3, 3, 0, 0, .null), (819, 1, .iconst 1, 0, 0, 0, .int 1), 
  (820, 1, .iadd, 0, 0, 0, .null), (821, 1, .iaload, 0, 0, 0, .null), (822, 3, .invokevirtual 121, 0, 0, 0, .null), (825, 3, .if_icmp .eq 51, 876, 0, 0, .null), 
  (828, 1, .iconst 0, 0, 0, 0, .int 0), (829, 1, .ireturn, 0, 0, 0, .null), (830, 1, .aload_n 1, 1, 0, 0, .null), (831, 1, .aload_n 0, 0, 0, 0, .null), 
  (832, 1, .iload_n 3, 3, 0, 0, .null), (833, 1, .iconst 1, 0, 0, 0, .int 1), (834, 1, .iadd, 0, 0, 0, .null), (835, 1, .iaload, 0, 0, 0, .null), 
  (836, 3, .invokevirtual 122, 0, 0, 0, .null), (839, 1, .aload_n 2, 2, 0, 0, .null), (840, 1, .aload_n 0, 0, 0, 0, .null), (841, 1, .iload_n 3, 3, 0, 0, .null), 
  (842, 1, .iconst 1, 0, 0, 0, .int 1), (843, 1, .iadd, 0, 0, 0, .null), (844, 1, .iaload, 0, 0, 0, .null), (845, 3, .invokevirtual 125, 0, 0, 0, .null), 
  (848, 3, .if_icmp .eq 28, 876, 0, 0, .null), (851, 1, .iconst 0, 0, 0, 0, .int 0), (852, 1, .ireturn, 0, 0, 0, .null), (853, 1, .aload_n 1, 1, 0, 0, .null), 
  (854, 1, .aload_n 0, 0, 0, 0, .null), (855, 1, .iload_n 3, 3, 0, 0, .null), (856, 1, .iconst 1, 0, 0, 0, .int 1), (857, 1, .iadd, 0, 0, 0, .null), 
  (858, 1, .iaload, 0, 0, 0, .null), (859, 3, .invokevirtual 126, 0, 0, 0, .null), (862, 1, .aload_n 2, 2, 0, 0, .null), (863, 1, .aload_n 0, 0, 0, 0, .null), 
  (864, 1, .iload_n 3, 3, 0, 0, .null), (865, 1, .iconst 1, 0, 0, 0, .int 1), (866, 1, .iadd, 0, 0, 0, .null), (867, 1, .iaload, 0, 0, 0, .null), 
  (868, 3, .invokevirtual 129, 0, 0, 0, .null), (871, 3, .if_icmp .eq 5, 876, 0, 0, .null), (874, 1, .iconst 0, 0, 0, 0, .int 0), (875, 1, .ireturn, 0, 0, 0, .null), 
  (876, 3, .iinc 3 4, 3, 0, 0, .int 4), (879, 3, .goto (-861), 18, 0, 0, .null), (882, 1, .iconst 1, 0, 0, 0, .int 1), (883, 1, .ireturn, 0, 0, 0, .null)]
theorem okL_law : tL_law.all (okI R_law false code) = true := by decide +kernel
/-! each call, in one form -/
def callXI (k : Nat) (a b c : Int32) (s : SoS) (yr : Nat) : Option (Int32 × SoS × Nat) := match k with
  | 0 => (so_say s yr a).map fun o => (o.1, o.2, yr)
  | 1 => (so_wipe s yr).map fun o => (o.1, o.2, yr)
  | 2 => (so_fault s yr).map fun o => (o, s, yr)
  | 3 => (so_yard s yr).map fun o => (o.1, o.2, yr)
  | 4 => (so_siding s yr a b).map fun o => (o, s, yr)
  | 5 => (so_leads s yr a b).map fun o => (o, s, yr)
  | 6 => (so_least s yr a b).map fun o => (o.1, o.2, yr)
  | 8 => (so_first s yr a b c).map fun o => (o.1, o.2.1, o.2.2)
  | 9 => (so_orders s yr a b).map fun o => (o.1, o.2, yr)
  | 10 => (so_good s yr a b).map fun o => (o.1, o.2, yr)
  | 12 => (so_need s yr a b).map fun o => (o.1, o.2.1, o.2.2)
  | 13 => (so_keep s yr).map fun o => (o.1, o.2, yr)
  | 14 => (so_unlike s yr a).map fun o => (o.1, o.2, yr)
  | 15 => (so_play s yr a b).map fun o => (o.1, o.2, yr)
  | 16 => (so_move s yr a).map fun o => (o.1, o.2, yr)
  | 17 => (so_back s yr).map fun o => (o.1, o.2, yr)
  | 18 => (so_rest s yr).map fun o => (o.1, o.2.1, o.2.2)
  | 19 => (so_next s yr).map fun o => (o.1, o.2.1, o.2.2)
  | 20 => (so_moves s yr a).map fun o => (o, s, yr)
  | 21 => (so_stand s yr a).map fun o => (o, s, yr)
  | 22 => (so_thumb s yr a b).map fun o => (o.1, o.2, yr)
  | 23 => (so_sorts s yr a b).map fun o => (o.1, o.2, yr)
  | 24 => (so_draw s yr a b).map fun o => (o, s, yr)
  | 25 => (if a = 0 then so_image0 s yr a else so_image1 s yr a).map fun o => (o.1, o.2, yr)
  | 26 => (if a = 0 then so_restore0 s yr a else so_restore1 s yr a).map fun o => (o.1, o.2, yr)
  | 27 => (so_told s yr a).map fun o => (o, s, yr)
  | _ => none
def callXL (k : Nat) (a b c : Int32) (s : SoS) (yr : Nat) : Option (Int64 × SoS × Nat) := match k with
  | 7 => (so_ways s yr a b).map fun o => (o.1, o.2, yr)
  | 11 => (so_mean s yr a b).map fun o => (o.1, o.2, yr)
  | _ => none
def callMI (k : Nat) (a b c : Int32) (σ : MS) : Option (Int32 × MS) := match k with
  | 0 => (m_say σ a).map fun o => (o.1, o.2)
  | 1 => (m_wipe σ).map fun o => (o.1, o.2)
  | 2 => (m_fault σ).map fun o => (o, σ)
  | 3 => (m_yard σ).map fun o => (o.1, o.2)
  | 4 => (m_siding σ a b).map fun o => (o, σ)
  | 5 => (m_leads σ a b).map fun o => (o, σ)
  | 6 => (m_least σ a b).map fun o => (o.1, o.2)
  | 8 => (m_first σ a b c).map fun o => (o.1, o.2)
  | 9 => (m_orders σ a b).map fun o => (o.1, o.2)
  | 10 => (m_good σ a b).map fun o => (o.1, o.2)
  | 12 => (m_need σ a b).map fun o => (o.1, o.2)
  | 13 => (m_keep σ).map fun o => (o.1, o.2)
  | 14 => (m_unlike σ a).map fun o => (o.1, o.2)
  | 15 => (m_play σ a b).map fun o => (o.1, o.2)
  | 16 => (m_move σ a).map fun o => (o.1, o.2)
  | 17 => (m_back σ).map fun o => (o.1, o.2)
  | 18 => (m_rest σ).map fun o => (o.1, o.2)
  | 19 => (m_next σ).map fun o => (o.1, o.2)
  | 20 => (m_moves σ a).map fun o => (o.1, o.2)
  | 21 => (m_stand σ a).map fun o => (o.1, o.2)
  | 22 => (m_thumb σ a b).map fun o => (o.1, o.2)
  | 23 => (m_sorts σ a b).map fun o => (o.1, o.2)
  | 24 => (m_draw σ a b).map fun o => (o, σ)
  | 25 => (m_image σ a).map fun o => (o.1, o.2)
  | 26 => (m_restore σ a).map fun o => (o.1, o.2)
  | 27 => (m_told σ a).map fun o => (o, σ)
  | _ => none
def callML (k : Nat) (a b c : Int32) (σ : MS) : Option (Int64 × MS) := match k with
  | 7 => (m_ways σ a b).map fun o => (o.1, o.2)
  | 11 => (m_mean σ a b).map fun o => (o.1, o.2)
  | _ => none
def hMs (σ : MS) : AH := (hM σ).map (rE (fun r => 92 + r))
def rX : List Nat := [0, 1, 2, 3, 4, 5, 6, 7, 8, 9, 10, 11, 12, 13, 14, 15, 16, 17, 18, 19, 20, 21, 22, 23, 24, 25, 26, 27, 28, 29, 30, 31, 32, 33, 34, 35, 36, 37, 38, 39, 40, 41, 42, 43, 44, 45, 46, 47, 48, 49, 50, 51, 52, 53, 54, 55, 56, 57, 58, 59, 60, 61, 62, 63, 64, 65, 66, 67, 68, 69, 70, 71, 72, 73, 74, 75, 76, 77, 78, 79, 80, 81, 82, 83, 84, 85, 86, 87, 88, 89, 90, 91]
def rM : List Nat := [92, 93, 94, 95, 96, 97, 98, 99, 100, 101, 102, 103, 104, 105, 106, 107, 108, 109, 110, 111, 112, 113, 114, 115, 116, 117, 118, 119, 120, 121]
set_option maxRecDepth 100000 in
set_option maxHeartbeats 4000000 in
theorem lX_m (yr : Nat) (s : SoS) (σ : MS) : (rX.take (hSo yr s).length).map (fun i => (hSo yr s ++ hMs σ)[i]?) = (hSo yr s).map (fun c => some (rE (rnF rX (hSo yr s ++ hMs σ).length) c)) := by
  sorry
set_option maxRecDepth 100000 in
set_option maxHeartbeats 4000000 in
theorem lX_j (yr yr' : Nat) (s s' : SoS) (σ : MS) : jn (hSo yr s ++ hMs σ) rX (hSo yr s).length (hSo yr' s') = hSo yr' s' ++ hMs σ := by
  sorry
set_option maxRecDepth 100000 in
set_option maxHeartbeats 4000000 in
theorem lM_m (yr : Nat) (s : SoS) (σ : MS) : (rM.take (hM σ).length).map (fun i => (hSo yr s ++ hMs σ)[i]?) = (hM σ).map (fun c => some (rE (rnF rM (hSo yr s ++ hMs σ).length) c)) := by
  sorry
set_option maxRecDepth 100000 in
set_option maxHeartbeats 4000000 in
theorem lM_j (yr : Nat) (s : SoS) (σ σ' : MS) : jn (hSo yr s ++ hMs σ) rM (hM σ).length (hM σ') = hSo yr s ++ hMs σ' := by
  sorry
