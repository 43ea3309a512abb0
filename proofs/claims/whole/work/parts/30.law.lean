/-! THE LAW: its instructions, one call of the class and of the reference after another -/
def mL_law (nm : String) : aMI := (⟨RL, nm, "([I)Z"⟩, cL_law, 4, some .boolean, [(.new 7, 0, 0, 0, []), (.dup, 3, 0, 0, []), (.invokespecial 9, 4, 0, 0, []), (.astore_n 1, 7, 0, 0, []), (.new 10, 8, 0, 0, []), (.dup, 11, 0, 0, []), (.invokespecial 12, 12, 0, 0, []), (.astore_n 2, 15, 0, 0, []), (.iconst 0, 16, 0, 0, []), (.istore_n 3, 17, 0, 0, []), (.iload_n 3, 18, 0, 0, []), (.aload_n 0, 19, 0, 0, []), (.arraylength, 20, 0, 0, []), (.bipush 6, 21, 0, 0, []), (.isub, 23, 0, 0, []), (.if_icmp .gt 1476, 24, 0, 0, []), (.aload_n 0, 27, 0, 0, []), (.iload_n 3, 28, 0, 0, []), (.iaload, 29, 0, 0, []), (.bipush 63, 30, 0, 0, []), (.iand, 32, 0, 0, []), (.tableswitch 1461 0 44 #[195, 258, 281, 304, 337, 370, 403, 426, 449, 472, 505, 528, 561, 584, 607, 630, 653, 686, 699, 722, 745, 768, 781, 814, 857, 880, 903, 926, 949, 982, 995, 1018, 1041, 1074, 1087, 1100, 1153, 1196, 1209, 1242, 1285, 1359, 1392, 1415, 1438], 33, 0, 0, []), (.aload_n 1, 228, 0, 0, []), (.aload_n 0, 229, 0, 0, []), (.iload_n 3, 230, 0, 0, []), (.iconst 1, 231, 0, 0, []), (.iadd, 232, 0, 0, []), (.iaload, 233, 0, 0, []), (.aload_n 0, 234, 0, 0, []), (.iload_n 3, 235, 0, 0, []), (.iconst 2, 236, 0, 0, []), (.iadd, 237, 0, 0, []), (.iaload, 238, 0, 0, []), (.aload_n 0, 239, 0, 0, []), (.iload_n 3, 240, 0, 0, []), (.iconst 3, 241, 0, 0, []), (.iadd, 242, 0, 0, []), (.iaload, 243, 0, 0, []), (.aload_n 0, 244, 0, 0, []), (.iload_n 3, 245, 0, 0, []), (.iconst 4, 246, 0, 0, []), (.iadd, 247, 0, 0, []), (.iaload, 248, 0, 0, []), (.aload_n 0, 249, 0, 0, []), (.iload_n 3, 250, 0, 0, []), (.iconst 5, 251, 0, 0, []), (.iadd, 252, 0, 0, []), (.iaload, 253, 0, 0, []), (.invokevirtual 13, 254, 0, 0, []), (.aload_n 2, 257, 0, 0, []), (.aload_n 0, 258, 0, 0, []), (.iload_n 3, 259, 0, 0, []), (.iconst 1, 260, 0, 0, []), (.iadd, 261, 0, 0, []), (.iaload, 262, 0, 0, []), (.aload_n 0, 263, 0, 0, []), (.iload_n 3, 264, 0, 0, []), (.iconst 2, 265, 0, 0, []), (.iadd, 266, 0, 0, []), (.iaload, 267, 0, 0, []), (.aload_n 0, 268, 0, 0, []), (.iload_n 3, 269, 0, 0, []), (.iconst 3, 270, 0, 0, []), (.iadd, 271, 0, 0, []), (.iaload, 272, 0, 0, []), (.aload_n 0, 273, 0, 0, []), (.iload_n 3, 274, 0, 0, []), (.iconst 4, 275, 0, 0, []), (.iadd, 276, 0, 0, []), (.iaload, 277, 0, 0, []), (.aload_n 0, 278, 0, 0, []), (.iload_n 3, 279, 0, 0, []), (.iconst 5, 280, 0, 0, []), (.iadd, 281, 0, 0, []), (.iaload, 282, 0, 0, []), (.invokevirtual 17, 283, 0, 0, []), (.if_icmp .eq 1208, 286, 0, 0, []), (.iconst 0, 289, 0, 0, []), (.ireturn, 290, 0, 0, []), (.aload_n 1, 291, 0, 0, []), (.aload_n 0, 292, 0, 0, []), (.iload_n 3, 293, 0, 0, []), (.iconst 1, 294, 0, 0, []), (.iadd, 295, 0, 0, []), (.iaload, 296, 0, 0, []), (.invokevirtual 18, 297, 0, 0, []), (.aload_n 2, 300, 0, 0, []), (.aload_n 0, 301, 0, 0, []), (.iload_n 3, 302, 0, 0, []), (.iconst 1, 303, 0, 0, []), (.iadd, 304, 0, 0, []), (.iaload, 305, 0, 0, []), (.invokevirtual 22, 306, 0, 0, []), (.if_icmp .eq 1185, 309, 0, 0, []), (.iconst 0, 312, 0, 0, []), (.ireturn, 313, 0, 0, []), (.aload_n 1, 314, 0, 0, []), (.aload_n 0, 315, 0, 0, []), (.iload_n 3, 316, 0, 0, []), (.iconst 1, 317, 0, 0, []), (.iadd, 318, 0, 0, []), (.iaload, 319, 0, 0, []), (.invokevirtual 23, 320, 0, 0, []), (.aload_n 2, 323, 0, 0, []), (.aload_n 0, 324, 0, 0, []), (.iload_n 3, 325, 0, 0, []), (.iconst 1, 326, 0, 0, []), (.iadd, 327, 0, 0, []), (.iaload, 328, 0, 0, []), (.invokevirtual 26, 329, 0, 0, []), (.if_icmp .eq 1162, 332, 0, 0, []), (.iconst 0, 335, 0, 0, []), (.ireturn, 336, 0, 0, []), (.aload_n 1, 337, 0, 0, []), (.aload_n 0, 338, 0, 0, []), (.iload_n 3, 339, 0, 0, []), (.iconst 1, 340, 0, 0, []), (.iadd, 341, 0, 0, []), (.iaload, 342, 0, 0, []), (.aload_n 0, 343, 0, 0, []), (.iload_n 3, 344, 0, 0, []), (.iconst 2, 345, 0, 0, []), (.iadd, 346, 0, 0, []), (.iaload, 347, 0, 0, []), (.invokevirtual 27, 348, 0, 0, []), (.aload_n 2, 351, 0, 0, []), (.aload_n 0, 352, 0, 0, []), (.iload_n 3, 353, 0, 0, []), (.iconst 1, 354, 0, 0, []), (.iadd, 355, 0, 0, []), (.iaload, 356, 0, 0, []), (.aload_n 0, 357, 0, 0, []), (.iload_n 3, 358, 0, 0, []), (.iconst 2, 359, 0, 0, []), (.iadd, 360, 0, 0, []), (.iaload, 361, 0, 0, []), (.invokevirtual 31, 362, 0, 0, []), (.if_icmp .eq 1129, 365, 0, 0, []), (.iconst 0, 368, 0, 0, []), (.ireturn, 369, 0, 0, []), (.aload_n 1, 370, 0, 0, []), (.aload_n 0, 371, 0, 0, []), (.iload_n 3, 372, 0, 0, []), (.iconst 1, 373, 0, 0, []), (.iadd, 374, 0, 0, []), (.iaload, 375, 0, 0, []), (.aload_n 0, 376, 0, 0, []), (.iload_n 3, 377, 0, 0, []), (.iconst 2, 378, 0, 0, []), (.iadd, 379, 0, 0, []), (.iaload, 380, 0, 0, []), (.invokevirtual 32, 381, 0, 0, []), (.aload_n 2, 384, 0, 0, []), (.aload_n 0, 385, 0, 0, []), (.iload_n 3, 386, 0, 0, []), (.iconst 1, 387, 0, 0, []), (.iadd, 388, 0, 0, []), (.iaload, 389, 0, 0, []), (.aload_n 0, 390, 0, 0, []), (.iload_n 3, 391, 0, 0, []), (.iconst 2, 392, 0, 0, []), (.iadd, 393, 0, 0, []), (.iaload, 394, 0, 0, []), (.invokevirtual 35, 395, 0, 0, []), (.if_icmp .eq 1096, 398, 0, 0, []), (.iconst 0, 401, 0, 0, []), (.ireturn, 402, 0, 0, []), (.aload_n 1, 403, 0, 0, []), (.aload_n 0, 404, 0, 0, []), (.iload_n 3, 405, 0, 0, []), (.iconst 1, 406, 0, 0, []), (.iadd, 407, 0, 0, []), (.iaload, 408, 0, 0, []), (.aload_n 0, 409, 0, 0, []), (.iload_n 3, 410, 0, 0, []), (.iconst 2, 411, 0, 0, []), (.iadd, 412, 0, 0, []), (.iaload, 413, 0, 0, []), (.invokevirtual 36, 414, 0, 0, []), (.aload_n 2, 417, 0, 0, []), (.aload_n 0, 418, 0, 0, []), (.iload_n 3, 419, 0, 0, []), (.iconst 1, 420, 0, 0, []), (.iadd, 421, 0, 0, []), (.iaload, 422, 0, 0, []), (.aload_n 0, 423, 0, 0, []), (.iload_n 3, 424, 0, 0, []), (.iconst 2, 425, 0, 0, []), (.iadd, 426, 0, 0, []), (.iaload, 427, 0, 0, []), (.invokevirtual 39, 428, 0, 0, []), (.if_icmp .eq 1063, 431, 0, 0, []), (.iconst 0, 434, 0, 0, []), (.ireturn, 435, 0, 0, []), (.aload_n 1, 436, 0, 0, []), (.aload_n 0, 437, 0, 0, []), (.iload_n 3, 438, 0, 0, []), (.iconst 1, 439, 0, 0, []), (.iadd, 440, 0, 0, []), (.iaload, 441, 0, 0, []), (.invokevirtual 40, 442, 0, 0, []), (.aload_n 2, 445, 0, 0, []), (.aload_n 0, 446, 0, 0, []), (.iload_n 3, 447, 0, 0, []), (.iconst 1, 448, 0, 0, []), (.iadd, 449, 0, 0, []), (.iaload, 450, 0, 0, []), (.invokevirtual 43, 451, 0, 0, []), (.if_icmp .eq 1040, 454, 0, 0, []), (.iconst 0, 457, 0, 0, []), (.ireturn, 458, 0, 0, []), (.aload_n 1, 459, 0, 0, []), (.aload_n 0, 460, 0, 0, []), (.iload_n 3, 461, 0, 0, []), (.iconst 1, 462, 0, 0, []), (.iadd, 463, 0, 0, []), (.iaload, 464, 0, 0, []), (.invokevirtual 44, 465, 0, 0, []), (.aload_n 2, 468, 0, 0, []), (.aload_n 0, 469, 0, 0, []), (.iload_n 3, 470, 0, 0, []), (.iconst 1, 471, 0, 0, []), (.iadd, 472, 0, 0, []), (.iaload, 473, 0, 0, []), (.invokevirtual 47, 474, 0, 0, []), (.if_icmp .eq 1017, 477, 0, 0, []), (.iconst 0, 480, 0, 0, []), (.ireturn, 481, 0, 0, []), (.aload_n 1, 482, 0, 0, []), (.aload_n 0, 483, 0, 0, []), (.iload_n 3, 484, 0, 0, []), (.iconst 1, 485, 0, 0, []), (.iadd, 486, 0, 0, []), (.iaload, 487, 0, 0, []), (.invokevirtual 48, 488, 0, 0, []), (.aload_n 2, 491, 0, 0, []), (.aload_n 0, 492, 0, 0, []), (.iload_n 3, 493, 0, 0, []), (.iconst 1, 494, 0, 0, []), (.iadd, 495, 0, 0, []), (.iaload, 496, 0, 0, []), (.invokevirtual 51, 497, 0, 0, []), (.if_icmp .eq 994, 500, 0, 0, []), (.iconst 0, 503, 0, 0, []), (.ireturn, 504, 0, 0, []), (.aload_n 1, 505, 0, 0, []), (.aload_n 0, 506, 0, 0, []), (.iload_n 3, 507, 0, 0, []), (.iconst 1, 508, 0, 0, []), (.iadd, 509, 0, 0, []), (.iaload, 510, 0, 0, []), (.aload_n 0, 511, 0, 0, []), (.iload_n 3, 512, 0, 0, []), (.iconst 2, 513, 0, 0, []), (.iadd, 514, 0, 0, []), (.iaload, 515, 0, 0, []), (.invokevirtual 52, 516, 0, 0, []), (.aload_n 2, 519, 0, 0, []), (.aload_n 0, 520, 0, 0, []), (.iload_n 3, 521, 0, 0, []), (.iconst 1, 522, 0, 0, []), (.iadd, 523, 0, 0, []), (.iaload, 524, 0, 0, []), (.aload_n 0, 525, 0, 0, []), (.iload_n 3, 526, 0, 0, []), (.iconst 2, 527, 0, 0, []), (.iadd, 528, 0, 0, []), (.iaload, 529, 0, 0, []), (.invokevirtual 55, 530, 0, 0, []), (.if_icmp .eq 961, 533, 0, 0, []), (.iconst 0, 536, 0, 0, []), (.ireturn, 537, 0, 0, []), (.aload_n 1, 538, 0, 0, []), (.aload_n 0, 539, 0, 0, []), (.iload_n 3, 540, 0, 0, []), (.iconst 1, 541, 0, 0, []), (.iadd, 542, 0, 0, []), (.iaload, 543, 0, 0, []), (.invokevirtual 56, 544, 0, 0, []), (.aload_n 2, 547, 0, 0, []), (.aload_n 0, 548, 0, 0, []), (.iload_n 3, 549, 0, 0, []), (.iconst 1, 550, 0, 0, []), (.iadd, 551, 0, 0, []), (.iaload, 552, 0, 0, []), (.invokevirtual 59, 553, 0, 0, []), (.if_icmp .eq 938, 556, 0, 0, []), (.iconst 0, 559, 0, 0, []), (.ireturn, 560, 0, 0, []), (.aload_n 1, 561, 0, 0, []), (.aload_n 0, 562, 0, 0, []), (.iload_n 3, 563, 0, 0, []), (.iconst 1, 564, 0, 0, []), (.iadd, 565, 0, 0, []), (.iaload, 566, 0, 0, []), (.aload_n 0, 567, 0, 0, []), (.iload_n 3, 568, 0, 0, []), (.iconst 2, 569, 0, 0, []), (.iadd, 570, 0, 0, []), (.iaload, 571, 0, 0, []), (.invokevirtual 60, 572, 0, 0, []), (.aload_n 2, 575, 0, 0, []), (.aload_n 0, 576, 0, 0, []), (.iload_n 3, 577, 0, 0, []), (.iconst 1, 578, 0, 0, []), (.iadd, 579, 0, 0, []), (.iaload, 580, 0, 0, []), (.aload_n 0, 581, 0, 0, []), (.iload_n 3, 582, 0, 0, []), (.iconst 2, 583, 0, 0, []), (.iadd, 584, 0, 0, []), (.iaload, 585, 0, 0, []), (.invokevirtual 63, 586, 0, 0, []), (.if_icmp .eq 905, 589, 0, 0, []), (.iconst 0, 592, 0, 0, []), (.ireturn, 593, 0, 0, []), (.aload_n 1, 594, 0, 0, []), (.aload_n 0, 595, 0, 0, []), (.iload_n 3, 596, 0, 0, []), (.iconst 1, 597, 0, 0, []), (.iadd, 598, 0, 0, []), (.iaload, 599, 0, 0, []), (.invokevirtual 64, 600, 0, 0, []), (.aload_n 2, 603, 0, 0, []), (.aload_n 0, 604, 0, 0, []), (.iload_n 3, 605, 0, 0, []), (.iconst 1, 606, 0, 0, []), (.iadd, 607, 0, 0, []), (.iaload, 608, 0, 0, []), (.invokevirtual 67, 609, 0, 0, []), (.if_icmp .eq 882, 612, 0, 0, []), (.iconst 0, 615, 0, 0, []), (.ireturn, 616, 0, 0, []), (.aload_n 1, 617, 0, 0, []), (.aload_n 0, 618, 0, 0, []), (.iload_n 3, 619, 0, 0, []), (.iconst 1, 620, 0, 0, []), (.iadd, 621, 0, 0, []), (.iaload, 622, 0, 0, []), (.invokevirtual 68, 623, 0, 0, []), (.aload_n 2, 626, 0, 0, []), (.aload_n 0, 627, 0, 0, []), (.iload_n 3, 628, 0, 0, []), (.iconst 1, 629, 0, 0, []), (.iadd, 630, 0, 0, []), (.iaload, 631, 0, 0, []), (.invokevirtual 71, 632, 0, 0, []), (.if_icmp .eq 859, 635, 0, 0, []), (.iconst 0, 638, 0, 0, []), (.ireturn, 639, 0, 0, []), (.aload_n 1, 640, 0, 0, []), (.aload_n 0, 641, 0, 0, []), (.iload_n 3, 642, 0, 0, []), (.iconst 1, 643, 0, 0, []), (.iadd, 644, 0, 0, []), (.iaload, 645, 0, 0, []), (.invokevirtual 72, 646, 0, 0, []), (.aload_n 2, 649, 0, 0, []), (.aload_n 0, 650, 0, 0, []), (.iload_n 3, 651, 0, 0, []), (.iconst 1, 652, 0, 0, []), (.iadd, 653, 0, 0, []), (.iaload, 654, 0, 0, []), (.invokevirtual 75, 655, 0, 0, []), (.if_icmp .eq 836, 658, 0, 0, []), (.iconst 0, 661, 0, 0, []), (.ireturn, 662, 0, 0, []), (.aload_n 1, 663, 0, 0, []), (.aload_n 0, 664, 0, 0, []), (.iload_n 3, 665, 0, 0, []), (.iconst 1, 666, 0, 0, []), (.iadd, 667, 0, 0, []), (.iaload, 668, 0, 0, []), (.invokevirtual 76, 669, 0, 0, []), (.aload_n 2, 672, 0, 0, []), (.aload_n 0, 673, 0, 0, []), (.iload_n 3, 674, 0, 0, []), (.iconst 1, 675, 0, 0, []), (.iadd, 676, 0, 0, []), (.iaload, 677, 0, 0, []), (.invokevirtual 79, 678, 0, 0, []), (.if_icmp .eq 813, 681, 0, 0, []), (.iconst 0, 684, 0, 0, []), (.ireturn, 685, 0, 0, []), (.aload_n 1, 686, 0, 0, []), (.aload_n 0, 687, 0, 0, []), (.iload_n 3, 688, 0, 0, []), (.iconst 1, 689, 0, 0, []), (.iadd, 690, 0, 0, []), (.iaload, 691, 0, 0, []), (.aload_n 0, 692, 0, 0, []), (.iload_n 3, 693, 0, 0, []), (.iconst 2, 694, 0, 0, []), (.iadd, 695, 0, 0, []), (.iaload, 696, 0, 0, []), (.invokevirtual 80, 697, 0, 0, []), (.aload_n 2, 700, 0, 0, []), (.aload_n 0, 701, 0, 0, []), (.iload_n 3, 702, 0, 0, []), (.iconst 1, 703, 0, 0, []), (.iadd, 704, 0, 0, []), (.iaload, 705, 0, 0, []), (.aload_n 0, 706, 0, 0, []), (.iload_n 3, 707, 0, 0, []), (.iconst 2, 708, 0, 0, []), (.iadd, 709, 0, 0, []), (.iaload, 710, 0, 0, []), (.invokevirtual 83, 711, 0, 0, []), (.if_icmp .eq 780, 714, 0, 0, []), (.iconst 0, 717, 0, 0, []), (.ireturn, 718, 0, 0, []), (.aload_n 1, 719, 0, 0, []), (.invokevirtual 84, 720, 0, 0, []), (.aload_n 2, 723, 0, 0, []), (.invokevirtual 88, 724, 0, 0, []), (.if_icmp .eq 767, 727, 0, 0, []), (.iconst 0, 730, 0, 0, []), (.ireturn, 731, 0, 0, []), (.aload_n 1, 732, 0, 0, []), (.aload_n 0, 733, 0, 0, []), (.iload_n 3, 734, 0, 0, []), (.iconst 1, 735, 0, 0, []), (.iadd, 736, 0, 0, []), (.iaload, 737, 0, 0, []), (.invokevirtual 89, 738, 0, 0, []), (.aload_n 2, 741, 0, 0, []), (.aload_n 0, 742, 0, 0, []), (.iload_n 3, 743, 0, 0, []), (.iconst 1, 744, 0, 0, []), (.iadd, 745, 0, 0, []), (.iaload, 746, 0, 0, []), (.invokevirtual 92, 747, 0, 0, []), (.if_icmp .eq 744, 750, 0, 0, []), (.iconst 0, 753, 0, 0, []), (.ireturn, 754, 0, 0, []), (.aload_n 1, 755, 0, 0, []), (.aload_n 0, 756, 0, 0, []), (.iload_n 3, 757, 0, 0, []), (.iconst 1, 758, 0, 0, []), (.iadd, 759, 0, 0, []), (.iaload, 760, 0, 0, []), (.invokevirtual 93, 761, 0, 0, []), (.aload_n 2, 764, 0, 0, []), (.aload_n 0, 765, 0, 0, []), (.iload_n 3, 766, 0, 0, []), (.iconst 1, 767, 0, 0, []), (.iadd, 768, 0, 0, []), (.iaload, 769, 0, 0, []), (.invokevirtual 96, 770, 0, 0, []), (.if_icmp .eq 721, 773, 0, 0, []), (.iconst 0, 776, 0, 0, []), (.ireturn, 777, 0, 0, []), (.aload_n 1, 778, 0, 0, []), (.aload_n 0, 779, 0, 0, []), (.iload_n 3, 780, 0, 0, []), (.iconst 1, 781, 0, 0, []), (.iadd, 782, 0, 0, []), (.iaload, 783, 0, 0, []), (.invokevirtual 97, 784, 0, 0, []), (.aload_n 2, 787, 0, 0, []), (.aload_n 0, 788, 0, 0, []), (.iload_n 3, 789, 0, 0, []), (.iconst 1, 790, 0, 0, []), (.iadd, 791, 0, 0, []), (.iaload, 792, 0, 0, []), (.invokevirtual 100, 793, 0, 0, []), (.if_icmp .eq 698, 796, 0, 0, []), (.iconst 0, 799, 0, 0, []), (.ireturn, 800, 0, 0, []), (.aload_n 1, 801, 0, 0, []), (.invokevirtual 101, 802, 0, 0, []), (.aload_n 2, 805, 0, 0, []), (.invokevirtual 104, 806, 0, 0, []), (.if_icmp .eq 685, 809, 0, 0, []), (.iconst 0, 812, 0, 0, []), (.ireturn, 813, 0, 0, []), (.aload_n 1, 814, 0, 0, []), (.aload_n 0, 815, 0, 0, []), (.iload_n 3, 816, 0, 0, []), (.iconst 1, 817, 0, 0, []), (.iadd, 818, 0, 0, []), (.iaload, 819, 0, 0, []), (.aload_n 0, 820, 0, 0, []), (.iload_n 3, 821, 0, 0, []), (.iconst 2, 822, 0, 0, []), (.iadd, 823, 0, 0, []), (.iaload, 824, 0, 0, []), (.invokevirtual 105, 825, 0, 0, []), (.aload_n 2, 828, 0, 0, []), (.aload_n 0, 829, 0, 0, []), (.iload_n 3, 830, 0, 0, []), (.iconst 1, 831, 0, 0, []), (.iadd, 832, 0, 0, []), (.iaload, 833, 0, 0, []), (.aload_n 0, 834, 0, 0, []), (.iload_n 3, 835, 0, 0, []), (.iconst 2, 836, 0, 0, []), (.iadd, 837, 0, 0, []), (.iaload, 838, 0, 0, []), (.invokevirtual 108, 839, 0, 0, []), (.if_icmp .eq 652, 842, 0, 0, []), (.iconst 0, 845, 0, 0, []), (.ireturn, 846, 0, 0, []), (.aload_n 1, 847, 0, 0, []), (.aload_n 0, 848, 0, 0, []), (.iload_n 3, 849, 0, 0, []), (.iconst 1, 850, 0, 0, []), (.iadd, 851, 0, 0, []), (.iaload, 852, 0, 0, []), (.aload_n 0, 853, 0, 0, []), (.iload_n 3, 854, 0, 0, []), (.iconst 2, 855, 0, 0, []), (.iadd, 856, 0, 0, []), (.iaload, 857, 0, 0, []), (.aload_n 0, 858, 0, 0, []), (.iload_n 3, 859, 0, 0, []), (.iconst 3, 860, 0, 0, []), (.iadd, 861, 0, 0, []), (.iaload, 862, 0, 0, []), (.invokevirtual 109, 863, 0, 0, []), (.aload_n 2, 866, 0, 0, []), (.aload_n 0, 867, 0, 0, []), (.iload_n 3, 868, 0, 0, []), (.iconst 1, 869, 0, 0, []), (.iadd, 870, 0, 0, []), (.iaload, 871, 0, 0, []), (.aload_n 0, 872, 0, 0, []), (.iload_n 3, 873, 0, 0, []), (.iconst 2, 874, 0, 0, []), (.iadd, 875, 0, 0, []), (.iaload, 876, 0, 0, []), (.aload_n 0, 877, 0, 0, []), (.iload_n 3, 878, 0, 0, []), (.iconst 3, 879, 0, 0, []), (.iadd, 880, 0, 0, []), (.iaload, 881, 0, 0, []), (.invokevirtual 113, 882, 0, 0, []), (.if_icmp .eq 609, 885, 0, 0, []), (.iconst 0, 888, 0, 0, []), (.ireturn, 889, 0, 0, []), (.aload_n 1, 890, 0, 0, []), (.aload_n 0, 891, 0, 0, []), (.iload_n 3, 892, 0, 0, []), (.iconst 1, 893, 0, 0, []), (.iadd, 894, 0, 0, []), (.iaload, 895, 0, 0, []), (.invokevirtual 114, 896, 0, 0, []), (.aload_n 2, 899, 0, 0, []), (.aload_n 0, 900, 0, 0, []), (.iload_n 3, 901, 0, 0, []), (.iconst 1, 902, 0, 0, []), (.iadd, 903, 0, 0, []), (.iaload, 904, 0, 0, []), (.invokevirtual 117, 905, 0, 0, []), (.if_icmp .eq 586, 908, 0, 0, []), (.iconst 0, 911, 0, 0, []), (.ireturn, 912, 0, 0, []), (.aload_n 1, 913, 0, 0, []), (.aload_n 0, 914, 0, 0, []), (.iload_n 3, 915, 0, 0, []), (.iconst 1, 916, 0, 0, []), (.iadd, 917, 0, 0, []), (.iaload, 918, 0, 0, []), (.invokevirtual 118, 919, 0, 0, []), (.aload_n 2, 922, 0, 0, []), (.aload_n 0, 923, 0, 0, []), (.iload_n 3, 924, 0, 0, []), (.iconst 1, 925, 0, 0, []), (.iadd, 926, 0, 0, []), (.iaload, 927, 0, 0, []), (.invokevirtual 121, 928, 0, 0, []), (.if_icmp .eq 563, 931, 0, 0, []), (.iconst 0, 934, 0, 0, []), (.ireturn, 935, 0, 0, []), (.aload_n 1, 936, 0, 0, []), (.aload_n 0, 937, 0, 0, []), (.iload_n 3, 938, 0, 0, []), (.iconst 1, 939, 0, 0, []), (.iadd, 940, 0, 0, []), (.iaload, 941, 0, 0, []), (.invokevirtual 122, 942, 0, 0, []), (.aload_n 2, 945, 0, 0, []), (.aload_n 0, 946, 0, 0, []), (.iload_n 3, 947, 0, 0, []), (.iconst 1, 948, 0, 0, []), (.iadd, 949, 0, 0, []), (.iaload, 950, 0, 0, []), (.invokevirtual 125, 951, 0, 0, []), (.if_icmp .eq 540, 954, 0, 0, []), (.iconst 0, 957, 0, 0, []), (.ireturn, 958, 0, 0, []), (.aload_n 1, 959, 0, 0, []), (.aload_n 0, 960, 0, 0, []), (.iload_n 3, 961, 0, 0, []), (.iconst 1, 962, 0, 0, []), (.iadd, 963, 0, 0, []), (.iaload, 964, 0, 0, []), (.invokevirtual 126, 965, 0, 0, []), (.aload_n 2, 968, 0, 0, []), (.aload_n 0, 969, 0, 0, []), (.iload_n 3, 970, 0, 0, []), (.iconst 1, 971, 0, 0, []), (.iadd, 972, 0, 0, []), (.iaload, 973, 0, 0, []), (.invokevirtual 129, 974, 0, 0, []), (.if_icmp .eq 517, 977, 0, 0, []), (.iconst 0, 980, 0, 0, []), (.ireturn, 981, 0, 0, []), (.aload_n 1, 982, 0, 0, []), (.aload_n 0, 983, 0, 0, []), (.iload_n 3, 984, 0, 0, []), (.iconst 1, 985, 0, 0, []), (.iadd, 986, 0, 0, []), (.iaload, 987, 0, 0, []), (.aload_n 0, 988, 0, 0, []), (.iload_n 3, 989, 0, 0, []), (.iconst 2, 990, 0, 0, []), (.iadd, 991, 0, 0, []), (.iaload, 992, 0, 0, []), (.invokevirtual 130, 993, 0, 0, []), (.aload_n 2, 996, 0, 0, []), (.aload_n 0, 997, 0, 0, []), (.iload_n 3, 998, 0, 0, []), (.iconst 1, 999, 0, 0, []), (.iadd, 1000, 0, 0, []), (.iaload, 1001, 0, 0, []), (.aload_n 0, 1002, 0, 0, []), (.iload_n 3, 1003, 0, 0, []), (.iconst 2, 1004, 0, 0, []), (.iadd, 1005, 0, 0, []), (.iaload, 1006, 0, 0, []), (.invokevirtual 133, 1007, 0, 0, []), (.if_icmp .eq 484, 1010, 0, 0, []), (.iconst 0, 1013, 0, 0, []), (.ireturn, 1014, 0, 0, []), (.aload_n 1, 1015, 0, 0, []), (.invokevirtual 134, 1016, 0, 0, []), (.aload_n 2, 1019, 0, 0, []), (.invokevirtual 137, 1020, 0, 0, []), (.if_icmp .eq 471, 1023, 0, 0, []), (.iconst 0, 1026, 0, 0, []), (.ireturn, 1027, 0, 0, []), (.aload_n 1, 1028, 0, 0, []), (.aload_n 0, 1029, 0, 0, []), (.iload_n 3, 1030, 0, 0, []), (.iconst 1, 1031, 0, 0, []), (.iadd, 1032, 0, 0, []), (.iaload, 1033, 0, 0, []), (.invokevirtual 138, 1034, 0, 0, []), (.aload_n 2, 1037, 0, 0, []), (.aload_n 0, 1038, 0, 0, []), (.iload_n 3, 1039, 0, 0, []), (.iconst 1, 1040, 0, 0, []), (.iadd, 1041, 0, 0, []), (.iaload, 1042, 0, 0, []), (.invokevirtual 141, 1043, 0, 0, []), (.if_icmp .eq 448, 1046, 0, 0, []), (.iconst 0, 1049, 0, 0, []), (.ireturn, 1050, 0, 0, []), (.aload_n 1, 1051, 0, 0, []), (.aload_n 0, 1052, 0, 0, []), (.iload_n 3, 1053, 0, 0, []), (.iconst 1, 1054, 0, 0, []), (.iadd, 1055, 0, 0, []), (.iaload, 1056, 0, 0, []), (.invokevirtual 142, 1057, 0, 0, []), (.aload_n 2, 1060, 0, 0, []), (.aload_n 0, 1061, 0, 0, []), (.iload_n 3, 1062, 0, 0, []), (.iconst 1, 1063, 0, 0, []), (.iadd, 1064, 0, 0, []), (.iaload, 1065, 0, 0, []), (.invokevirtual 145, 1066, 0, 0, []), (.if_icmp .eq 425, 1069, 0, 0, []), (.iconst 0, 1072, 0, 0, []), (.ireturn, 1073, 0, 0, []), (.aload_n 1, 1074, 0, 0, []), (.aload_n 0, 1075, 0, 0, []), (.iload_n 3, 1076, 0, 0, []), (.iconst 1, 1077, 0, 0, []), (.iadd, 1078, 0, 0, []), (.iaload, 1079, 0, 0, []), (.aload_n 0, 1080, 0, 0, []), (.iload_n 3, 1081, 0, 0, []), (.iconst 2, 1082, 0, 0, []), (.iadd, 1083, 0, 0, []), (.iaload, 1084, 0, 0, []), (.invokevirtual 146, 1085, 0, 0, []), (.aload_n 2, 1088, 0, 0, []), (.aload_n 0, 1089, 0, 0, []), (.iload_n 3, 1090, 0, 0, []), (.iconst 1, 1091, 0, 0, []), (.iadd, 1092, 0, 0, []), (.iaload, 1093, 0, 0, []), (.aload_n 0, 1094, 0, 0, []), (.iload_n 3, 1095, 0, 0, []), (.iconst 2, 1096, 0, 0, []), (.iadd, 1097, 0, 0, []), (.iaload, 1098, 0, 0, []), (.invokevirtual 149, 1099, 0, 0, []), (.if_icmp .eq 392, 1102, 0, 0, []), (.iconst 0, 1105, 0, 0, []), (.ireturn, 1106, 0, 0, []), (.aload_n 1, 1107, 0, 0, []), (.invokevirtual 150, 1108, 0, 0, []), (.aload_n 2, 1111, 0, 0, []), (.invokevirtual 153, 1112, 0, 0, []), (.if_icmp .eq 379, 1115, 0, 0, []), (.iconst 0, 1118, 0, 0, []), (.ireturn, 1119, 0, 0, []), (.aload_n 1, 1120, 0, 0, []), (.invokevirtual 154, 1121, 0, 0, []), (.aload_n 2, 1124, 0, 0, []), (.invokevirtual 157, 1125, 0, 0, []), (.if_icmp .eq 366, 1128, 0, 0, []), (.iconst 0, 1131, 0, 0, []), (.ireturn, 1132, 0, 0, []), (.aload_n 1, 1133, 0, 0, []), (.aload_n 0, 1134, 0, 0, []), (.iload_n 3, 1135, 0, 0, []), (.iconst 1, 1136, 0, 0, []), (.iadd, 1137, 0, 0, []), (.iaload, 1138, 0, 0, []), (.aload_n 0, 1139, 0, 0, []), (.iload_n 3, 1140, 0, 0, []), (.iconst 2, 1141, 0, 0, []), (.iadd, 1142, 0, 0, []), (.iaload, 1143, 0, 0, []), (.aload_n 0, 1144, 0, 0, []), (.iload_n 3, 1145, 0, 0, []), (.iconst 3, 1146, 0, 0, []), (.iadd, 1147, 0, 0, []), (.iaload, 1148, 0, 0, []), (.aload_n 0, 1149, 0, 0, []), (.iload_n 3, 1150, 0, 0, []), (.iconst 4, 1151, 0, 0, []), (.iadd, 1152, 0, 0, []), (.iaload, 1153, 0, 0, []), (.invokevirtual 158, 1154, 0, 0, []), (.aload_n 2, 1157, 0, 0, []), (.aload_n 0, 1158, 0, 0, []), (.iload_n 3, 1159, 0, 0, []), (.iconst 1, 1160, 0, 0, []), (.iadd, 1161, 0, 0, []), (.iaload, 1162, 0, 0, []), (.aload_n 0, 1163, 0, 0, []), (.iload_n 3, 1164, 0, 0, []), (.iconst 2, 1165, 0, 0, []), (.iadd, 1166, 0, 0, []), (.iaload, 1167, 0, 0, []), (.aload_n 0, 1168, 0, 0, []), (.iload_n 3, 1169, 0, 0, []), (.iconst 3, 1170, 0, 0, []), (.iadd, 1171, 0, 0, []), (.iaload, 1172, 0, 0, []), (.aload_n 0, 1173, 0, 0, []), (.iload_n 3, 1174, 0, 0, []), (.iconst 4, 1175, 0, 0, []), (.iadd, 1176, 0, 0, []), (.iaload, 1177, 0, 0, []), (.invokevirtual 162, 1178, 0, 0, []), (.if_icmp .eq 313, 1181, 0, 0, []), (.iconst 0, 1184, 0, 0, []), (.ireturn, 1185, 0, 0, []), (.aload_n 1, 1186, 0, 0, []), (.aload_n 0, 1187, 0, 0, []), (.iload_n 3, 1188, 0, 0, []), (.iconst 1, 1189, 0, 0, []), (.iadd, 1190, 0, 0, []), (.iaload, 1191, 0, 0, []), (.aload_n 0, 1192, 0, 0, []), (.iload_n 3, 1193, 0, 0, []), (.iconst 2, 1194, 0, 0, []), (.iadd, 1195, 0, 0, []), (.iaload, 1196, 0, 0, []), (.aload_n 0, 1197, 0, 0, []), (.iload_n 3, 1198, 0, 0, []), (.iconst 3, 1199, 0, 0, []), (.iadd, 1200, 0, 0, []), (.iaload, 1201, 0, 0, []), (.invokevirtual 163, 1202, 0, 0, []), (.aload_n 2, 1205, 0, 0, []), (.aload_n 0, 1206, 0, 0, []), (.iload_n 3, 1207, 0, 0, []), (.iconst 1, 1208, 0, 0, []), (.iadd, 1209, 0, 0, []), (.iaload, 1210, 0, 0, []), (.aload_n 0, 1211, 0, 0, []), (.iload_n 3, 1212, 0, 0, []), (.iconst 2, 1213, 0, 0, []), (.iadd, 1214, 0, 0, []), (.iaload, 1215, 0, 0, []), (.aload_n 0, 1216, 0, 0, []), (.iload_n 3, 1217, 0, 0, []), (.iconst 3, 1218, 0, 0, []), (.iadd, 1219, 0, 0, []), (.iaload, 1220, 0, 0, []), (.invokevirtual 166, 1221, 0, 0, []), (.if_icmp .eq 270, 1224, 0, 0, []), (.iconst 0, 1227, 0, 0, []), (.ireturn, 1228, 0, 0, []), (.aload_n 1, 1229, 0, 0, []), (.invokevirtual 167, 1230, 0, 0, []), (.aload_n 2, 1233, 0, 0, []), (.invokevirtual 170, 1234, 0, 0, []), (.if_icmp .eq 257, 1237, 0, 0, []), (.iconst 0, 1240, 0, 0, []), (.ireturn, 1241, 0, 0, []), (.aload_n 1, 1242, 0, 0, []), (.aload_n 0, 1243, 0, 0, []), (.iload_n 3, 1244, 0, 0, []), (.iconst 1, 1245, 0, 0, []), (.iadd, 1246, 0, 0, []), (.iaload, 1247, 0, 0, []), (.aload_n 0, 1248, 0, 0, []), (.iload_n 3, 1249, 0, 0, []), (.iconst 2, 1250, 0, 0, []), (.iadd, 1251, 0, 0, []), (.iaload, 1252, 0, 0, []), (.invokevirtual 171, 1253, 0, 0, []), (.aload_n 2, 1256, 0, 0, []), (.aload_n 0, 1257, 0, 0, []), (.iload_n 3, 1258, 0, 0, []), (.iconst 1, 1259, 0, 0, []), (.iadd, 1260, 0, 0, []), (.iaload, 1261, 0, 0, []), (.aload_n 0, 1262, 0, 0, []), (.iload_n 3, 1263, 0, 0, []), (.iconst 2, 1264, 0, 0, []), (.iadd, 1265, 0, 0, []), (.iaload, 1266, 0, 0, []), (.invokevirtual 174, 1267, 0, 0, []), (.if_icmp .eq 224, 1270, 0, 0, []), (.iconst 0, 1273, 0, 0, []), (.ireturn, 1274, 0, 0, []), (.aload_n 1, 1275, 0, 0, []), (.aload_n 0, 1276, 0, 0, []), (.iload_n 3, 1277, 0, 0, []), (.iconst 1, 1278, 0, 0, []), (.iadd, 1279, 0, 0, []), (.iaload, 1280, 0, 0, []), (.aload_n 0, 1281, 0, 0, []), (.iload_n 3, 1282, 0, 0, []), (.iconst 2, 1283, 0, 0, []), (.iadd, 1284, 0, 0, []), (.iaload, 1285, 0, 0, []), (.aload_n 0, 1286, 0, 0, []), (.iload_n 3, 1287, 0, 0, []), (.iconst 3, 1288, 0, 0, []), (.iadd, 1289, 0, 0, []), (.iaload, 1290, 0, 0, []), (.invokevirtual 175, 1291, 0, 0, []), (.aload_n 2, 1294, 0, 0, []), (.aload_n 0, 1295, 0, 0, []), (.iload_n 3, 1296, 0, 0, []), (.iconst 1, 1297, 0, 0, []), (.iadd, 1298, 0, 0, []), (.iaload, 1299, 0, 0, []), (.aload_n 0, 1300, 0, 0, []), (.iload_n 3, 1301, 0, 0, []), (.iconst 2, 1302, 0, 0, []), (.iadd, 1303, 0, 0, []), (.iaload, 1304, 0, 0, []), (.aload_n 0, 1305, 0, 0, []), (.iload_n 3, 1306, 0, 0, []), (.iconst 3, 1307, 0, 0, []), (.iadd, 1308, 0, 0, []), (.iaload, 1309, 0, 0, []), (.invokevirtual 178, 1310, 0, 0, []), (.if_icmp .eq 181, 1313, 0, 0, []), (.iconst 0, 1316, 0, 0, []), (.ireturn, 1317, 0, 0, []), (.aload_n 1, 1318, 0, 0, []), (.aload_n 0, 1319, 0, 0, []), (.iload_n 3, 1320, 0, 0, []), (.iconst 1, 1321, 0, 0, []), (.iadd, 1322, 0, 0, []), (.iaload, 1323, 0, 0, []), (.aload_n 0, 1324, 0, 0, []), (.iload_n 3, 1325, 0, 0, []), (.iconst 2, 1326, 0, 0, []), (.iadd, 1327, 0, 0, []), (.iaload, 1328, 0, 0, []), (.aload_n 0, 1329, 0, 0, []), (.iload_n 3, 1330, 0, 0, []), (.iconst 3, 1331, 0, 0, []), (.iadd, 1332, 0, 0, []), (.iaload, 1333, 0, 0, []), (.i2l, 1334, 0, 0, []), (.bipush 32, 1335, 0, 0, []), (.lshl, 1337, 0, 0, []), (.aload_n 0, 1338, 0, 0, []), (.iload_n 3, 1339, 0, 0, []), (.iconst 4, 1340, 0, 0, []), (.iadd, 1341, 0, 0, []), (.iaload, 1342, 0, 0, []), (.i2l, 1343, 0, 0, []), (.ldc2_w 179, 1344, 0, 0, []), (.land, 1347, 0, 0, []), (.lor, 1348, 0, 0, []), (.invokevirtual 181, 1349, 0, 0, []), (.aload_n 2, 1352, 0, 0, []), (.aload_n 0, 1353, 0, 0, []), (.iload_n 3, 1354, 0, 0, []), (.iconst 1, 1355, 0, 0, []), (.iadd, 1356, 0, 0, []), (.iaload, 1357, 0, 0, []), (.aload_n 0, 1358, 0, 0, []), (.iload_n 3, 1359, 0, 0, []), (.iconst 2, 1360, 0, 0, []), (.iadd, 1361, 0, 0, []), (.iaload, 1362, 0, 0, []), (.aload_n 0, 1363, 0, 0, []), (.iload_n 3, 1364, 0, 0, []), (.iconst 3, 1365, 0, 0, []), (.iadd, 1366, 0, 0, []), (.iaload, 1367, 0, 0, []), (.i2l, 1368, 0, 0, []), (.bipush 32, 1369, 0, 0, []), (.lshl, 1371, 0, 0, []), (.aload_n 0, 1372, 0, 0, []), (.iload_n 3, 1373, 0, 0, []), (.iconst 4, 1374, 0, 0, []), (.iadd, 1375, 0, 0, []), (.iaload, 1376, 0, 0, []), (.i2l, 1377, 0, 0, []), (.ldc2_w 179, 1378, 0, 0, []), (.land, 1381, 0, 0, []), (.lor, 1382, 0, 0, []), (.invokevirtual 185, 1383, 0, 0, []), (.lcmp, 1386, 0, 0, []), (.ifCond .eq 107, 1387, 0, 0, []), (.iconst 0, 1390, 0, 0, []), (.ireturn, 1391, 0, 0, []), (.aload_n 1, 1392, 0, 0, []), (.aload_n 0, 1393, 0, 0, []), (.iload_n 3, 1394, 0, 0, []), (.iconst 1, 1395, 0, 0, []), (.iadd, 1396, 0, 0, []), (.iaload, 1397, 0, 0, []), (.aload_n 0, 1398, 0, 0, []), (.iload_n 3, 1399, 0, 0, []), (.iconst 2, 1400, 0, 0, []), (.iadd, 1401, 0, 0, []), (.iaload, 1402, 0, 0, []), (.invokevirtual 186, 1403, 0, 0, []), (.aload_n 2, 1406, 0, 0, []), (.aload_n 0, 1407, 0, 0, []), (.iload_n 3, 1408, 0, 0, []), (.iconst 1, 1409, 0, 0, []), (.iadd, 1410, 0, 0, []), (.iaload, 1411, 0, 0, []), (.aload_n 0, 1412, 0, 0, []), (.iload_n 3, 1413, 0, 0, []), (.iconst 2, 1414, 0, 0, []), (.iadd, 1415, 0, 0, []), (.iaload, 1416, 0, 0, []), (.invokevirtual 189, 1417, 0, 0, []), (.if_icmp .eq 74, 1420, 0, 0, []), (.iconst 0, 1423, 0, 0, []), (.ireturn, 1424, 0, 0, []), (.aload_n 1, 1425, 0, 0, []), (.aload_n 0, 1426, 0, 0, []), (.iload_n 3, 1427, 0, 0, []), (.iconst 1, 1428, 0, 0, []), (.iadd, 1429, 0, 0, []), (.iaload, 1430, 0, 0, []), (.invokevirtual 190, 1431, 0, 0, []), (.aload_n 2, 1434, 0, 0, []), (.aload_n 0, 1435, 0, 0, []), (.iload_n 3, 1436, 0, 0, []), (.iconst 1, 1437, 0, 0, []), (.iadd, 1438, 0, 0, []), (.iaload, 1439, 0, 0, []), (.invokevirtual 193, 1440, 0, 0, []), (.if_icmp .eq 51, 1443, 0, 0, []), (.iconst 0, 1446, 0, 0, []), (.ireturn, 1447, 0, 0, []), (.aload_n 1, 1448, 0, 0, []), (.aload_n 0, 1449, 0, 0, []), (.iload_n 3, 1450, 0, 0, []), (.iconst 1, 1451, 0, 0, []), (.iadd, 1452, 0, 0, []), (.iaload, 1453, 0, 0, []), (.invokevirtual 194, 1454, 0, 0, []), (.aload_n 2, 1457, 0, 0, []), (.aload_n 0, 1458, 0, 0, []), (.iload_n 3, 1459, 0, 0, []), (.iconst 1, 1460, 0, 0, []), (.iadd, 1461, 0, 0, []), (.iaload, 1462, 0, 0, []), (.invokevirtual 197, 1463, 0, 0, []), (.if_icmp .eq 28, 1466, 0, 0, []), (.iconst 0, 1469, 0, 0, []), (.ireturn, 1470, 0, 0, []), (.aload_n 1, 1471, 0, 0, []), (.aload_n 0, 1472, 0, 0, []), (.iload_n 3, 1473, 0, 0, []), (.iconst 1, 1474, 0, 0, []), (.iadd, 1475, 0, 0, []), (.iaload, 1476, 0, 0, []), (.invokevirtual 198, 1477, 0, 0, []), (.aload_n 2, 1480, 0, 0, []), (.aload_n 0, 1481, 0, 0, []), (.iload_n 3, 1482, 0, 0, []), (.iconst 1, 1483, 0, 0, []), (.iadd, 1484, 0, 0, []), (.iaload, 1485, 0, 0, []), (.invokevirtual 201, 1486, 0, 0, []), (.if_icmp .eq 5, 1489, 0, 0, []), (.iconst 0, 1492, 0, 0, []), (.ireturn, 1493, 0, 0, []), (.iinc 3 6, 1494, 0, 0, []), (.goto (-1479), 1497, 0, 0, []), (.iconst 1, 1500, 0, 0, []), (.ireturn, 1501, 0, 0, [])])
theorem ck_mL_law {nm : String} : aChk (mL_law nm).2.1 (mL_law nm).2.2.2.2 = true := (by decide +kernel : aChk (mL_law "").2.1 (mL_law "").2.2.2.2 = true)
theorem al_OneBreathLaw_13 : aLk "OneBreathLaw" 13 mX11_feed 5 := ⟨wd_478, wd_475, wd_138, by decide +kernel⟩
theorem al_OneBreathLaw_18 : aLk "OneBreathLaw" 18 mX11_tongue 1 := ⟨wd_486, wd_483, wd_138, by decide +kernel⟩
theorem al_OneBreathLaw_23 : aLk "OneBreathLaw" 23 mX11_fault 1 := ⟨wd_623, wd_620, wd_138, by decide +kernel⟩
theorem al_OneBreathLaw_27 : aLk "OneBreathLaw" 27 mX11_sound 2 := ⟨wd_627, wd_624, wd_138, by decide +kernel⟩
theorem al_OneBreathLaw_32 : aLk "OneBreathLaw" 32 mX11_word 2 := ⟨wd_631, wd_628, wd_138, by decide +kernel⟩
theorem al_OneBreathLaw_36 : aLk "OneBreathLaw" 36 mX11_shape 2 := ⟨wd_639, wd_636, wd_138, by decide +kernel⟩
theorem al_OneBreathLaw_40 : aLk "OneBreathLaw" 40 mX11_behind 1 := ⟨wd_643, wd_640, wd_138, by decide +kernel⟩
theorem al_OneBreathLaw_44 : aLk "OneBreathLaw" 44 mX11_ends 1 := ⟨wd_650, wd_647, wd_138, by decide +kernel⟩
theorem al_OneBreathLaw_48 : aLk "OneBreathLaw" 48 mX11_spelt 1 := ⟨wd_654, wd_651, wd_138, by decide +kernel⟩
theorem al_OneBreathLaw_52 : aLk "OneBreathLaw" 52 mX11_unlike 2 := ⟨wd_667, wd_664, wd_138, by decide +kernel⟩
theorem al_OneBreathLaw_56 : aLk "OneBreathLaw" 56 mX11_near 1 := ⟨wd_682, wd_679, wd_138, by decide +kernel⟩
theorem al_OneBreathLaw_60 : aLk "OneBreathLaw" 60 mX11_judge 2 := ⟨wd_686, wd_683, wd_138, by decide +kernel⟩
theorem al_OneBreathLaw_64 : aLk "OneBreathLaw" 64 mX11_say 1 := ⟨wd_711, wd_708, wd_138, by decide +kernel⟩
theorem al_OneBreathLaw_68 : aLk "OneBreathLaw" 68 mX11_line 1 := ⟨wd_720, wd_717, wd_138, by decide +kernel⟩
theorem al_OneBreathLaw_72 : aLk "OneBreathLaw" 72 mX11_at 1 := ⟨wd_729, wd_726, wd_138, by decide +kernel⟩
theorem al_OneBreathLaw_76 : aLk "OneBreathLaw" 76 mX11_cuts 1 := ⟨wd_733, wd_730, wd_138, by decide +kernel⟩
theorem al_OneBreathLaw_80 : aLk "OneBreathLaw" 80 mX11_cut 2 := ⟨wd_758, wd_755, wd_138, by decide +kernel⟩
theorem al_OneBreathLaw_84 : aLk "OneBreathLaw" 84 mX11_mistakes 0 := ⟨wd_793, wd_790, wd_138, by decide +kernel⟩
theorem al_OneBreathLaw_89 : aLk "OneBreathLaw" 89 mX11_bound 1 := ⟨wd_801, wd_798, wd_138, by decide +kernel⟩
theorem al_OneBreathLaw_93 : aLk "OneBreathLaw" 93 mX11_unsure 1 := ⟨wd_812, wd_809, wd_138, by decide +kernel⟩
theorem al_OneBreathLaw_97 : aLk "OneBreathLaw" 97 mX11_unsureAt 1 := ⟨wd_898, wd_895, wd_138, by decide +kernel⟩
theorem al_OneBreathLaw_101 : aLk "OneBreathLaw" 101 mX11_bears 0 := ⟨wd_944, wd_941, wd_138, by decide +kernel⟩
theorem al_OneBreathLaw_105 : aLk "OneBreathLaw" 105 mX11_added 2 := ⟨wd_948, wd_945, wd_138, by decide +kernel⟩
theorem al_OneBreathLaw_109 : aLk "OneBreathLaw" 109 mX11_adds 3 := ⟨wd_979, wd_976, wd_138, by decide +kernel⟩
theorem al_OneBreathLaw_114 : aLk "OneBreathLaw" 114 mX11_mended 1 := ⟨wd_987, wd_984, wd_138, by decide +kernel⟩
theorem al_OneBreathLaw_118 : aLk "OneBreathLaw" 118 mX11_changed 1 := ⟨wd_1006, wd_1003, wd_138, by decide +kernel⟩
theorem al_OneBreathLaw_122 : aLk "OneBreathLaw" 122 mX11_paused 1 := ⟨wd_1022, wd_1019, wd_138, by decide +kernel⟩
theorem al_OneBreathLaw_126 : aLk "OneBreathLaw" 126 mX11_begun 1 := ⟨wd_1030, wd_1027, wd_138, by decide +kernel⟩
theorem al_OneBreathLaw_130 : aLk "OneBreathLaw" 130 mX11_fitted 2 := ⟨wd_1039, wd_1036, wd_138, by decide +kernel⟩
theorem al_OneBreathLaw_134 : aLk "OneBreathLaw" 134 mX11_talk 0 := ⟨wd_1047, wd_1044, wd_138, by decide +kernel⟩
theorem al_OneBreathLaw_138 : aLk "OneBreathLaw" 138 mX11_code 1 := ⟨wd_1051, wd_1048, wd_138, by decide +kernel⟩
theorem al_OneBreathLaw_142 : aLk "OneBreathLaw" 142 mX11_said 1 := ⟨wd_1066, wd_1063, wd_138, by decide +kernel⟩
theorem al_OneBreathLaw_146 : aLk "OneBreathLaw" 146 mX11_richest 2 := ⟨wd_1074, wd_1071, wd_138, by decide +kernel⟩
theorem al_OneBreathLaw_150 : aLk "OneBreathLaw" 150 mX11_endless 0 := ⟨wd_1082, wd_1079, wd_138, by decide +kernel⟩
theorem al_OneBreathLaw_154 : aLk "OneBreathLaw" 154 mX11_longest 0 := ⟨wd_1099, wd_1096, wd_138, by decide +kernel⟩
theorem al_OneBreathLaw_158 : aLk "OneBreathLaw" 158 mX11_noise 4 := ⟨wd_1103, wd_1100, wd_138, by decide +kernel⟩
theorem al_OneBreathLaw_163 : aLk "OneBreathLaw" 163 mX11_asked 3 := ⟨wd_1129, wd_1126, wd_138, by decide +kernel⟩
theorem al_OneBreathLaw_167 : aLk "OneBreathLaw" 167 mX11_tree 0 := ⟨wd_1133, wd_1130, wd_138, by decide +kernel⟩
theorem al_OneBreathLaw_171 : aLk "OneBreathLaw" 171 mX11_limb 2 := ⟨wd_1144, wd_1141, wd_138, by decide +kernel⟩
theorem al_OneBreathLaw_175 : aLk "OneBreathLaw" 175 mX11_numbers 3 := ⟨wd_1160, wd_1157, wd_138, by decide +kernel⟩
theorem al_OneBreathLaw_181 : aLk "OneBreathLaw" 181 mX11_write 3 := ⟨wd_1171, wd_1168, wd_138, by decide +kernel⟩
theorem al_OneBreathLaw_186 : aLk "OneBreathLaw" 186 mX11_copy 2 := ⟨wd_1185, wd_1182, wd_138, by decide +kernel⟩
theorem al_OneBreathLaw_190 : aLk "OneBreathLaw" 190 mX11_image 1 := ⟨wd_1189, wd_1186, wd_138, by decide +kernel⟩
theorem al_OneBreathLaw_194 : aLk "OneBreathLaw" 194 mX11_restore 1 := ⟨wd_1193, wd_1190, wd_138, by decide +kernel⟩
theorem al_OneBreathLaw_198 : aLk "OneBreathLaw" 198 mX11_count 1 := ⟨wd_1197, wd_1194, wd_138, by decide +kernel⟩
theorem al_OneBreathLaw_17 : aLk "OneBreathLaw" 17 mX12_feed 5 := ⟨wd_1263, wd_1260, wd_151, by decide +kernel⟩
theorem al_OneBreathLaw_22 : aLk "OneBreathLaw" 22 mX12_tongue 1 := ⟨wd_1267, wd_1264, wd_151, by decide +kernel⟩
theorem al_OneBreathLaw_26 : aLk "OneBreathLaw" 26 mX12_fault 1 := ⟨wd_1342, wd_1339, wd_151, by decide +kernel⟩
theorem al_OneBreathLaw_31 : aLk "OneBreathLaw" 31 mX12_sound 2 := ⟨wd_1346, wd_1343, wd_151, by decide +kernel⟩
theorem al_OneBreathLaw_35 : aLk "OneBreathLaw" 35 mX12_word 2 := ⟨wd_1351, wd_1348, wd_151, by decide +kernel⟩
theorem al_OneBreathLaw_39 : aLk "OneBreathLaw" 39 mX12_shape 2 := ⟨wd_1359, wd_1356, wd_151, by decide +kernel⟩
theorem al_OneBreathLaw_43 : aLk "OneBreathLaw" 43 mX12_behind 1 := ⟨wd_1364, wd_1361, wd_151, by decide +kernel⟩
theorem al_OneBreathLaw_47 : aLk "OneBreathLaw" 47 mX12_ends 1 := ⟨wd_1369, wd_1366, wd_151, by decide +kernel⟩
theorem al_OneBreathLaw_51 : aLk "OneBreathLaw" 51 mX12_spelt 1 := ⟨wd_1373, wd_1370, wd_151, by decide +kernel⟩
theorem al_OneBreathLaw_55 : aLk "OneBreathLaw" 55 mX12_unlike 2 := ⟨wd_1377, wd_1374, wd_151, by decide +kernel⟩
theorem al_OneBreathLaw_59 : aLk "OneBreathLaw" 59 mX12_near 1 := ⟨wd_1387, wd_1384, wd_151, by decide +kernel⟩
theorem al_OneBreathLaw_63 : aLk "OneBreathLaw" 63 mX12_judge 2 := ⟨wd_1391, wd_1388, wd_151, by decide +kernel⟩
theorem al_OneBreathLaw_67 : aLk "OneBreathLaw" 67 mX12_say 1 := ⟨wd_1410, wd_1407, wd_151, by decide +kernel⟩
theorem al_OneBreathLaw_71 : aLk "OneBreathLaw" 71 mX12_line 1 := ⟨wd_1417, wd_1414, wd_151, by decide +kernel⟩
theorem al_OneBreathLaw_75 : aLk "OneBreathLaw" 75 mX12_at 1 := ⟨wd_1424, wd_1421, wd_151, by decide +kernel⟩
theorem al_OneBreathLaw_79 : aLk "OneBreathLaw" 79 mX12_cuts 1 := ⟨wd_1428, wd_1425, wd_151, by decide +kernel⟩
theorem al_OneBreathLaw_83 : aLk "OneBreathLaw" 83 mX12_cut 2 := ⟨wd_1445, wd_1442, wd_151, by decide +kernel⟩
theorem al_OneBreathLaw_88 : aLk "OneBreathLaw" 88 mX12_mistakes 0 := ⟨wd_1470, wd_1467, wd_151, by decide +kernel⟩
theorem al_OneBreathLaw_92 : aLk "OneBreathLaw" 92 mX12_bound 1 := ⟨wd_1474, wd_1471, wd_151, by decide +kernel⟩
theorem al_OneBreathLaw_96 : aLk "OneBreathLaw" 96 mX12_unsure 1 := ⟨wd_1478, wd_1475, wd_151, by decide +kernel⟩
theorem al_OneBreathLaw_100 : aLk "OneBreathLaw" 100 mX12_unsureAt 1 := ⟨wd_1524, wd_1521, wd_151, by decide +kernel⟩
theorem al_OneBreathLaw_104 : aLk "OneBreathLaw" 104 mX12_bears 0 := ⟨wd_1531, wd_1528, wd_151, by decide +kernel⟩
theorem al_OneBreathLaw_108 : aLk "OneBreathLaw" 108 mX12_added 2 := ⟨wd_1538, wd_1535, wd_151, by decide +kernel⟩
theorem al_OneBreathLaw_113 : aLk "OneBreathLaw" 113 mX12_adds 3 := ⟨wd_1558, wd_1555, wd_151, by decide +kernel⟩
theorem al_OneBreathLaw_117 : aLk "OneBreathLaw" 117 mX12_mended 1 := ⟨wd_1563, wd_1560, wd_151, by decide +kernel⟩
theorem al_OneBreathLaw_121 : aLk "OneBreathLaw" 121 mX12_changed 1 := ⟨wd_1570, wd_1567, wd_151, by decide +kernel⟩
theorem al_OneBreathLaw_125 : aLk "OneBreathLaw" 125 mX12_paused 1 := ⟨wd_1574, wd_1571, wd_151, by decide +kernel⟩
theorem al_OneBreathLaw_129 : aLk "OneBreathLaw" 129 mX12_begun 1 := ⟨wd_1578, wd_1575, wd_151, by decide +kernel⟩
theorem al_OneBreathLaw_133 : aLk "OneBreathLaw" 133 mX12_fitted 2 := ⟨wd_1585, wd_1582, wd_151, by decide +kernel⟩
theorem al_OneBreathLaw_137 : aLk "OneBreathLaw" 137 mX12_talk 0 := ⟨wd_1595, wd_1592, wd_151, by decide +kernel⟩
theorem al_OneBreathLaw_141 : aLk "OneBreathLaw" 141 mX12_code 1 := ⟨wd_1599, wd_1596, wd_151, by decide +kernel⟩
theorem al_OneBreathLaw_145 : aLk "OneBreathLaw" 145 mX12_said 1 := ⟨wd_1604, wd_1601, wd_151, by decide +kernel⟩
theorem al_OneBreathLaw_153 : aLk "OneBreathLaw" 153 mX12_endless 0 := ⟨wd_1609, wd_1606, wd_151, by decide +kernel⟩
theorem al_OneBreathLaw_157 : aLk "OneBreathLaw" 157 mX12_longest 0 := ⟨wd_1619, wd_1616, wd_151, by decide +kernel⟩
theorem al_OneBreathLaw_149 : aLk "OneBreathLaw" 149 mX12_richest 2 := ⟨wd_1623, wd_1620, wd_151, by decide +kernel⟩
theorem al_OneBreathLaw_162 : aLk "OneBreathLaw" 162 mX12_noise 4 := ⟨wd_1633, wd_1630, wd_151, by decide +kernel⟩
theorem al_OneBreathLaw_166 : aLk "OneBreathLaw" 166 mX12_asked 3 := ⟨wd_1652, wd_1649, wd_151, by decide +kernel⟩
theorem al_OneBreathLaw_170 : aLk "OneBreathLaw" 170 mX12_tree 0 := ⟨wd_1656, wd_1653, wd_151, by decide +kernel⟩
theorem al_OneBreathLaw_174 : aLk "OneBreathLaw" 174 mX12_limb 2 := ⟨wd_1660, wd_1657, wd_151, by decide +kernel⟩
theorem al_OneBreathLaw_178 : aLk "OneBreathLaw" 178 mX12_numbers 3 := ⟨wd_1671, wd_1668, wd_151, by decide +kernel⟩
theorem al_OneBreathLaw_185 : aLk "OneBreathLaw" 185 mX12_write 3 := ⟨wd_1676, wd_1673, wd_151, by decide +kernel⟩
theorem al_OneBreathLaw_189 : aLk "OneBreathLaw" 189 mX12_copy 2 := ⟨wd_1686, wd_1683, wd_151, by decide +kernel⟩
theorem al_OneBreathLaw_193 : aLk "OneBreathLaw" 193 mX12_image 1 := ⟨wd_1690, wd_1687, wd_151, by decide +kernel⟩
theorem al_OneBreathLaw_197 : aLk "OneBreathLaw" 197 mX12_restore 1 := ⟨wd_1694, wd_1691, wd_151, by decide +kernel⟩
theorem al_OneBreathLaw_201 : aLk "OneBreathLaw" 201 mX12_count 1 := ⟨wd_1698, wd_1695, wd_151, by decide +kernel⟩
def lawLv (n : Nat) : List (Nat × aV) := [(3, .inl ((6 * n : Nat) : Int)), (2, .inr (.inr (.inl (some 176)))), (1, .inr (.inr (.inl (some 0)))), (0, .inr (.inr (.inr 21)))]
theorem aw_eqi {p : Program} {l : Launch} {e : Env} {s : State} {m : MethodId} {args : Array Value} {below : List Frame} {meth : Method} {c : Code} {Q : State → Prop} {D : va_G} {cA : FieldType → ClassId} {ad adV : Nat → Nat} {z0 : Nat} {al : List Nat} {mm : aM} {R : Room} {M : aMI} {sh : List aE} {i : Nat} {lv : List (Nat × aV)} {st : List aV} {nc ns : Nat} {a b : Int} (h : a = b) (k : AW p l e R s m args below meth c Q D cA ad z0 M al i lv (.inl b :: st) sh mm nc ns) : AW p l e R s m args below meth c Q D cA ad z0 M al i lv (.inl a :: st) sh mm nc ns := by rw [h]; exact k
theorem ix_ok {n L : Nat} (h : 6 * n + 6 ≤ L) (hL : L ≤ 384) (j : Nat) (hj : j < 6) : w32 (((6 * n : Nat) : Int) + (j : Int)) = ((6 * n + j : Nat) : Int) := by
  rw [w32_id (by unfold in32; omega)]
  omega
theorem ix_in {n L : Nat} (h : 6 * n + 6 ≤ L) (j : Nat) (hj : j < 6) : (0 : Int) ≤ ((6 * n + j : Nat) : Int) ∧ ((6 * n + j : Nat) : Int) < (L : Int) := by omega
set_option maxHeartbeats 4000000 in
theorem lc_0 {nm : String} {p : Program} {l : Launch} {e : Env} {s : State} {m : MethodId} {args : Array Value} {below : List Frame} {meth : Method} {c : Code} {Q : State → Prop} {D : va_G} {cA : FieldType → ClassId} {ad adV : Nat → Nat} {z0 : Nat} {al : List Nat} {mm : aM} {nc ns : Nat} (K : aK p s m args meth c (mL_law nm) D cA ad adV z0) {n L : Nat} {xs : Nat → Int32} (hX : va_X (ad 21) L xs s s.heap) (hb : ad 21 < z0) (hn : 6 * n + 6 ≤ L) (hL : L ≤ 384) (hr : nc + 0 ≤ 600000 ∧ ns + 0 ≤ 7302250) {r : Int} {mm1 mm2 : aM} (h1 : B_feed ((xs (6 * n + 1)).toInt) ((xs (6 * n + 2)).toInt) ((xs (6 * n + 3)).toInt) ((xs (6 * n + 4)).toInt) ((xs (6 * n + 5)).toInt) mm = some (r, mm1)) (h2 : R_feed ((xs (6 * n + 1)).toInt) ((xs (6 * n + 2)).toInt) ((xs (6 * n + 3)).toInt) ((xs (6 * n + 4)).toInt) ((xs (6 * n + 5)).toInt) mm1 = some (r, mm2)) (kk : ∀ bl, AW p l e room_1 s m args below meth c Q D cA ad z0 (mL_law nm) (al ++ bl) 1012 (lawLv n) [] SH mm2 nc ns) : AW p l e room_1 s m args below meth c Q D cA ad z0 (mL_law nm) al 22 (lawLv n) [] SH mm nc ns := by
  unfold lawLv
  refine aw_aload_n (i := 22) K (dOf ck_mL_law rfl rfl) rfl ?_
  refine aw_sload_n (i := 23) K (dOf ck_mL_law rfl rfl) rfl ?_
  refine aw_iload_n (i := 24) K (dOf ck_mL_law rfl rfl) rfl ?_
  refine aw_iconst (i := 25) K (n := 1) (i32 _ rfl) (dOf ck_mL_law rfl rfl) ?_
  refine aw_iadd (i := 26) K (dOf ck_mL_law rfl rfl) ?_
  refine aw_eqi (b := ((6 * n + 1 : Nat) : Int)) (ix_ok hn hL 1 (by decide)) ?_
  refine aw_scrld (i := 27) K hX hb (dOf ck_mL_law rfl rfl) (ix_in hn 1 (by decide)) ?_
  refine aw_sload_n (i := 28) K (dOf ck_mL_law rfl rfl) rfl ?_
  refine aw_iload_n (i := 29) K (dOf ck_mL_law rfl rfl) rfl ?_
  refine aw_iconst (i := 30) K (n := 2) (i32 _ rfl) (dOf ck_mL_law rfl rfl) ?_
  refine aw_iadd (i := 31) K (dOf ck_mL_law rfl rfl) ?_
  refine aw_eqi (b := ((6 * n + 2 : Nat) : Int)) (ix_ok hn hL 2 (by decide)) ?_
  refine aw_scrld (i := 32) K hX hb (dOf ck_mL_law rfl rfl) (ix_in hn 2 (by decide)) ?_
  refine aw_sload_n (i := 33) K (dOf ck_mL_law rfl rfl) rfl ?_
  refine aw_iload_n (i := 34) K (dOf ck_mL_law rfl rfl) rfl ?_
  refine aw_iconst (i := 35) K (n := 3) (i32 _ rfl) (dOf ck_mL_law rfl rfl) ?_
  refine aw_iadd (i := 36) K (dOf ck_mL_law rfl rfl) ?_
  refine aw_eqi (b := ((6 * n + 3 : Nat) : Int)) (ix_ok hn hL 3 (by decide)) ?_
  refine aw_scrld (i := 37) K hX hb (dOf ck_mL_law rfl rfl) (ix_in hn 3 (by decide)) ?_
  refine aw_sload_n (i := 38) K (dOf ck_mL_law rfl rfl) rfl ?_
  refine aw_iload_n (i := 39) K (dOf ck_mL_law rfl rfl) rfl ?_
  refine aw_iconst (i := 40) K (n := 4) (i32 _ rfl) (dOf ck_mL_law rfl rfl) ?_
  refine aw_iadd (i := 41) K (dOf ck_mL_law rfl rfl) ?_
  refine aw_eqi (b := ((6 * n + 4 : Nat) : Int)) (ix_ok hn hL 4 (by decide)) ?_
  refine aw_scrld (i := 42) K hX hb (dOf ck_mL_law rfl rfl) (ix_in hn 4 (by decide)) ?_
  refine aw_sload_n (i := 43) K (dOf ck_mL_law rfl rfl) rfl ?_
  refine aw_iload_n (i := 44) K (dOf ck_mL_law rfl rfl) rfl ?_
  refine aw_iconst (i := 45) K (n := 5) (i32 _ rfl) (dOf ck_mL_law rfl rfl) ?_
  refine aw_iadd (i := 46) K (dOf ck_mL_law rfl rfl) ?_
  refine aw_eqi (b := ((6 * n + 5 : Nat) : Int)) (ix_ok hn hL 5 (by decide)) ?_
  refine aw_scrld (i := 47) K hX hb (dOf ck_mL_law rfl rfl) (ix_in hn 5 (by decide)) ?_
  refine aw_callV (i := 48) (as := [.inl _, .inl _, .inl _, .inl _, .inl _]) (q := 0) K (dOf ck_mL_law rfl rfl) al_OneBreathLaw_13 rfl rfl ⟨wd_476, wd_477⟩ rfl (Nat.le_of_ble_eq_true rfl) ⟨Nat.le_of_ble_eq_true rfl, Nat.le_of_ble_eq_true rfl⟩ hr (Nat.le_refl _) (met_B_feed h1) (fun bl1 => ?_)
  refine aw_aload_n (i := 49) K (dOf ck_mL_law rfl rfl) rfl ?_
  refine aw_sload_n (i := 50) K (dOf ck_mL_law rfl rfl) rfl ?_
  refine aw_iload_n (i := 51) K (dOf ck_mL_law rfl rfl) rfl ?_
  refine aw_iconst (i := 52) K (n := 1) (i32 _ rfl) (dOf ck_mL_law rfl rfl) ?_
  refine aw_iadd (i := 53) K (dOf ck_mL_law rfl rfl) ?_
  refine aw_eqi (b := ((6 * n + 1 : Nat) : Int)) (ix_ok hn hL 1 (by decide)) ?_
  refine aw_scrld (i := 54) K hX hb (dOf ck_mL_law rfl rfl) (ix_in hn 1 (by decide)) ?_
  refine aw_sload_n (i := 55) K (dOf ck_mL_law rfl rfl) rfl ?_
  refine aw_iload_n (i := 56) K (dOf ck_mL_law rfl rfl) rfl ?_
  refine aw_iconst (i := 57) K (n := 2) (i32 _ rfl) (dOf ck_mL_law rfl rfl) ?_
  refine aw_iadd (i := 58) K (dOf ck_mL_law rfl rfl) ?_
  refine aw_eqi (b := ((6 * n + 2 : Nat) : Int)) (ix_ok hn hL 2 (by decide)) ?_
  refine aw_scrld (i := 59) K hX hb (dOf ck_mL_law rfl rfl) (ix_in hn 2 (by decide)) ?_
  refine aw_sload_n (i := 60) K (dOf ck_mL_law rfl rfl) rfl ?_
  refine aw_iload_n (i := 61) K (dOf ck_mL_law rfl rfl) rfl ?_
  refine aw_iconst (i := 62) K (n := 3) (i32 _ rfl) (dOf ck_mL_law rfl rfl) ?_
  refine aw_iadd (i := 63) K (dOf ck_mL_law rfl rfl) ?_
  refine aw_eqi (b := ((6 * n + 3 : Nat) : Int)) (ix_ok hn hL 3 (by decide)) ?_
  refine aw_scrld (i := 64) K hX hb (dOf ck_mL_law rfl rfl) (ix_in hn 3 (by decide)) ?_
  refine aw_sload_n (i := 65) K (dOf ck_mL_law rfl rfl) rfl ?_
  refine aw_iload_n (i := 66) K (dOf ck_mL_law rfl rfl) rfl ?_
  refine aw_iconst (i := 67) K (n := 4) (i32 _ rfl) (dOf ck_mL_law rfl rfl) ?_
  refine aw_iadd (i := 68) K (dOf ck_mL_law rfl rfl) ?_
  refine aw_eqi (b := ((6 * n + 4 : Nat) : Int)) (ix_ok hn hL 4 (by decide)) ?_
  refine aw_scrld (i := 69) K hX hb (dOf ck_mL_law rfl rfl) (ix_in hn 4 (by decide)) ?_
  refine aw_sload_n (i := 70) K (dOf ck_mL_law rfl rfl) rfl ?_
  refine aw_iload_n (i := 71) K (dOf ck_mL_law rfl rfl) rfl ?_
  refine aw_iconst (i := 72) K (n := 5) (i32 _ rfl) (dOf ck_mL_law rfl rfl) ?_
  refine aw_iadd (i := 73) K (dOf ck_mL_law rfl rfl) ?_
  refine aw_eqi (b := ((6 * n + 5 : Nat) : Int)) (ix_ok hn hL 5 (by decide)) ?_
  refine aw_scrld (i := 74) K hX hb (dOf ck_mL_law rfl rfl) (ix_in hn 5 (by decide)) ?_
  refine aw_callV (i := 75) (as := [.inl _, .inl _, .inl _, .inl _, .inl _]) (q := 176) K (dOf ck_mL_law rfl rfl) al_OneBreathLaw_17 rfl rfl ⟨wd_1261, wd_1262⟩ rfl (Nat.le_of_ble_eq_true rfl) ⟨Nat.le_of_ble_eq_true rfl, Nat.le_of_ble_eq_true rfl⟩ hr (Nat.le_refl _) (met_R_feed h2) (fun bl2 => ?_)
  refine aw_icmp_eq (i := 76) K (dOf ck_mL_law rfl rfl) (t := 1012) (aJ_of (by decide +kernel)) (fun _ => ?_) (fun z => absurd rfl z)
  have k9 := kk (bl1 ++ bl2)
  rw [← List.append_assoc] at k9
  exact k9
set_option maxHeartbeats 4000000 in
theorem lc_1 {nm : String} {p : Program} {l : Launch} {e : Env} {s : State} {m : MethodId} {args : Array Value} {below : List Frame} {meth : Method} {c : Code} {Q : State → Prop} {D : va_G} {cA : FieldType → ClassId} {ad adV : Nat → Nat} {z0 : Nat} {al : List Nat} {mm : aM} {nc ns : Nat} (K : aK p s m args meth c (mL_law nm) D cA ad adV z0) {n L : Nat} {xs : Nat → Int32} (hX : va_X (ad 21) L xs s s.heap) (hb : ad 21 < z0) (hn : 6 * n + 6 ≤ L) (hL : L ≤ 384) (hr : nc + 0 ≤ 600000 ∧ ns + 0 ≤ 7302250) {r : Int} {mm1 mm2 : aM} (h1 : B_tongue ((xs (6 * n + 1)).toInt) mm = some (r, mm1)) (h2 : R_tongue ((xs (6 * n + 1)).toInt) mm1 = some (r, mm2)) (kk : ∀ bl, AW p l e room_1 s m args below meth c Q D cA ad z0 (mL_law nm) (al ++ bl) 1012 (lawLv n) [] SH mm2 nc ns) : AW p l e room_1 s m args below meth c Q D cA ad z0 (mL_law nm) al 79 (lawLv n) [] SH mm nc ns := by
  unfold lawLv
  refine aw_aload_n (i := 79) K (dOf ck_mL_law rfl rfl) rfl ?_
  refine aw_sload_n (i := 80) K (dOf ck_mL_law rfl rfl) rfl ?_
  refine aw_iload_n (i := 81) K (dOf ck_mL_law rfl rfl) rfl ?_
  refine aw_iconst (i := 82) K (n := 1) (i32 _ rfl) (dOf ck_mL_law rfl rfl) ?_
  refine aw_iadd (i := 83) K (dOf ck_mL_law rfl rfl) ?_
  refine aw_eqi (b := ((6 * n + 1 : Nat) : Int)) (ix_ok hn hL 1 (by decide)) ?_
  refine aw_scrld (i := 84) K hX hb (dOf ck_mL_law rfl rfl) (ix_in hn 1 (by decide)) ?_
  refine aw_callV (i := 85) (as := [.inl _]) (q := 0) K (dOf ck_mL_law rfl rfl) al_OneBreathLaw_18 rfl rfl ⟨wd_484, wd_485⟩ rfl (Nat.le_of_ble_eq_true rfl) ⟨Nat.le_of_ble_eq_true rfl, Nat.le_of_ble_eq_true rfl⟩ hr (Nat.le_refl _) (met_B_tongue h1) (fun bl1 => ?_)
  refine aw_aload_n (i := 86) K (dOf ck_mL_law rfl rfl) rfl ?_
  refine aw_sload_n (i := 87) K (dOf ck_mL_law rfl rfl) rfl ?_
  refine aw_iload_n (i := 88) K (dOf ck_mL_law rfl rfl) rfl ?_
  refine aw_iconst (i := 89) K (n := 1) (i32 _ rfl) (dOf ck_mL_law rfl rfl) ?_
  refine aw_iadd (i := 90) K (dOf ck_mL_law rfl rfl) ?_
  refine aw_eqi (b := ((6 * n + 1 : Nat) : Int)) (ix_ok hn hL 1 (by decide)) ?_
  refine aw_scrld (i := 91) K hX hb (dOf ck_mL_law rfl rfl) (ix_in hn 1 (by decide)) ?_
  refine aw_callV (i := 92) (as := [.inl _]) (q := 176) K (dOf ck_mL_law rfl rfl) al_OneBreathLaw_22 rfl rfl ⟨wd_1265, wd_1266⟩ rfl (Nat.le_of_ble_eq_true rfl) ⟨Nat.le_of_ble_eq_true rfl, Nat.le_of_ble_eq_true rfl⟩ hr (Nat.le_refl _) (met_R_tongue h2) (fun bl2 => ?_)
  refine aw_icmp_eq (i := 93) K (dOf ck_mL_law rfl rfl) (t := 1012) (aJ_of (by decide +kernel)) (fun _ => ?_) (fun z => absurd rfl z)
  have k9 := kk (bl1 ++ bl2)
  rw [← List.append_assoc] at k9
  exact k9
set_option maxHeartbeats 4000000 in
theorem lc_2 {nm : String} {p : Program} {l : Launch} {e : Env} {s : State} {m : MethodId} {args : Array Value} {below : List Frame} {meth : Method} {c : Code} {Q : State → Prop} {D : va_G} {cA : FieldType → ClassId} {ad adV : Nat → Nat} {z0 : Nat} {al : List Nat} {mm : aM} {nc ns : Nat} (K : aK p s m args meth c (mL_law nm) D cA ad adV z0) {n L : Nat} {xs : Nat → Int32} (hX : va_X (ad 21) L xs s s.heap) (hb : ad 21 < z0) (hn : 6 * n + 6 ≤ L) (hL : L ≤ 384) (hr : nc + 0 ≤ 600000 ∧ ns + 0 ≤ 7302250) {r : Int} {mm2 : aM} (h1 : B_fault ((xs (6 * n + 1)).toInt) mm = some r) (h2 : R_fault ((xs (6 * n + 1)).toInt) mm = some (r, mm2)) (kk : ∀ bl, AW p l e room_1 s m args below meth c Q D cA ad z0 (mL_law nm) (al ++ bl) 1012 (lawLv n) [] SH mm2 nc ns) : AW p l e room_1 s m args below meth c Q D cA ad z0 (mL_law nm) al 96 (lawLv n) [] SH mm nc ns := by
  unfold lawLv
  refine aw_aload_n (i := 96) K (dOf ck_mL_law rfl rfl) rfl ?_
  refine aw_sload_n (i := 97) K (dOf ck_mL_law rfl rfl) rfl ?_
  refine aw_iload_n (i := 98) K (dOf ck_mL_law rfl rfl) rfl ?_
  refine aw_iconst (i := 99) K (n := 1) (i32 _ rfl) (dOf ck_mL_law rfl rfl) ?_
  refine aw_iadd (i := 100) K (dOf ck_mL_law rfl rfl) ?_
  refine aw_eqi (b := ((6 * n + 1 : Nat) : Int)) (ix_ok hn hL 1 (by decide)) ?_
  refine aw_scrld (i := 101) K hX hb (dOf ck_mL_law rfl rfl) (ix_in hn 1 (by decide)) ?_
  refine aw_callV (i := 102) (as := [.inl _]) (q := 0) K (dOf ck_mL_law rfl rfl) al_OneBreathLaw_23 rfl rfl ⟨wd_621, wd_622⟩ rfl (Nat.le_of_ble_eq_true rfl) ⟨Nat.le_of_ble_eq_true rfl, Nat.le_of_ble_eq_true rfl⟩ hr (Nat.le_refl _) (met_B_fault h1) (fun bl1 => ?_)
  refine aw_aload_n (i := 103) K (dOf ck_mL_law rfl rfl) rfl ?_
  refine aw_sload_n (i := 104) K (dOf ck_mL_law rfl rfl) rfl ?_
  refine aw_iload_n (i := 105) K (dOf ck_mL_law rfl rfl) rfl ?_
  refine aw_iconst (i := 106) K (n := 1) (i32 _ rfl) (dOf ck_mL_law rfl rfl) ?_
  refine aw_iadd (i := 107) K (dOf ck_mL_law rfl rfl) ?_
  refine aw_eqi (b := ((6 * n + 1 : Nat) : Int)) (ix_ok hn hL 1 (by decide)) ?_
  refine aw_scrld (i := 108) K hX hb (dOf ck_mL_law rfl rfl) (ix_in hn 1 (by decide)) ?_
  refine aw_callV (i := 109) (as := [.inl _]) (q := 176) K (dOf ck_mL_law rfl rfl) al_OneBreathLaw_26 rfl rfl ⟨wd_1340, wd_1341⟩ rfl (Nat.le_of_ble_eq_true rfl) ⟨Nat.le_of_ble_eq_true rfl, Nat.le_of_ble_eq_true rfl⟩ hr (Nat.le_refl _) (met_R_fault h2) (fun bl2 => ?_)
  refine aw_icmp_eq (i := 110) K (dOf ck_mL_law rfl rfl) (t := 1012) (aJ_of (by decide +kernel)) (fun _ => ?_) (fun z => absurd rfl z)
  have k9 := kk (bl1 ++ bl2)
  rw [← List.append_assoc] at k9
  exact k9
set_option maxHeartbeats 4000000 in
theorem lc_3 {nm : String} {p : Program} {l : Launch} {e : Env} {s : State} {m : MethodId} {args : Array Value} {below : List Frame} {meth : Method} {c : Code} {Q : State → Prop} {D : va_G} {cA : FieldType → ClassId} {ad adV : Nat → Nat} {z0 : Nat} {al : List Nat} {mm : aM} {nc ns : Nat} (K : aK p s m args meth c (mL_law nm) D cA ad adV z0) {n L : Nat} {xs : Nat → Int32} (hX : va_X (ad 21) L xs s s.heap) (hb : ad 21 < z0) (hn : 6 * n + 6 ≤ L) (hL : L ≤ 384) (hr : nc + 0 ≤ 600000 ∧ ns + 0 ≤ 7302250) {r : Int} {mm2 : aM} (h1 : B_sound ((xs (6 * n + 1)).toInt) ((xs (6 * n + 2)).toInt) mm = some r) (h2 : R_sound ((xs (6 * n + 1)).toInt) ((xs (6 * n + 2)).toInt) mm = some (r, mm2)) (kk : ∀ bl, AW p l e room_1 s m args below meth c Q D cA ad z0 (mL_law nm) (al ++ bl) 1012 (lawLv n) [] SH mm2 nc ns) : AW p l e room_1 s m args below meth c Q D cA ad z0 (mL_law nm) al 113 (lawLv n) [] SH mm nc ns := by
  unfold lawLv
  refine aw_aload_n (i := 113) K (dOf ck_mL_law rfl rfl) rfl ?_
  refine aw_sload_n (i := 114) K (dOf ck_mL_law rfl rfl) rfl ?_
  refine aw_iload_n (i := 115) K (dOf ck_mL_law rfl rfl) rfl ?_
  refine aw_iconst (i := 116) K (n := 1) (i32 _ rfl) (dOf ck_mL_law rfl rfl) ?_
  refine aw_iadd (i := 117) K (dOf ck_mL_law rfl rfl) ?_
  refine aw_eqi (b := ((6 * n + 1 : Nat) : Int)) (ix_ok hn hL 1 (by decide)) ?_
  refine aw_scrld (i := 118) K hX hb (dOf ck_mL_law rfl rfl) (ix_in hn 1 (by decide)) ?_
  refine aw_sload_n (i := 119) K (dOf ck_mL_law rfl rfl) rfl ?_
  refine aw_iload_n (i := 120) K (dOf ck_mL_law rfl rfl) rfl ?_
  refine aw_iconst (i := 121) K (n := 2) (i32 _ rfl) (dOf ck_mL_law rfl rfl) ?_
  refine aw_iadd (i := 122) K (dOf ck_mL_law rfl rfl) ?_
  refine aw_eqi (b := ((6 * n + 2 : Nat) : Int)) (ix_ok hn hL 2 (by decide)) ?_
  refine aw_scrld (i := 123) K hX hb (dOf ck_mL_law rfl rfl) (ix_in hn 2 (by decide)) ?_
  refine aw_callV (i := 124) (as := [.inl _, .inl _]) (q := 0) K (dOf ck_mL_law rfl rfl) al_OneBreathLaw_27 rfl rfl ⟨wd_625, wd_626⟩ rfl (Nat.le_of_ble_eq_true rfl) ⟨Nat.le_of_ble_eq_true rfl, Nat.le_of_ble_eq_true rfl⟩ hr (Nat.le_refl _) (met_B_sound h1) (fun bl1 => ?_)
  refine aw_aload_n (i := 125) K (dOf ck_mL_law rfl rfl) rfl ?_
  refine aw_sload_n (i := 126) K (dOf ck_mL_law rfl rfl) rfl ?_
  refine aw_iload_n (i := 127) K (dOf ck_mL_law rfl rfl) rfl ?_
  refine aw_iconst (i := 128) K (n := 1) (i32 _ rfl) (dOf ck_mL_law rfl rfl) ?_
  refine aw_iadd (i := 129) K (dOf ck_mL_law rfl rfl) ?_
  refine aw_eqi (b := ((6 * n + 1 : Nat) : Int)) (ix_ok hn hL 1 (by decide)) ?_
  refine aw_scrld (i := 130) K hX hb (dOf ck_mL_law rfl rfl) (ix_in hn 1 (by decide)) ?_
  refine aw_sload_n (i := 131) K (dOf ck_mL_law rfl rfl) rfl ?_
  refine aw_iload_n (i := 132) K (dOf ck_mL_law rfl rfl) rfl ?_
  refine aw_iconst (i := 133) K (n := 2) (i32 _ rfl) (dOf ck_mL_law rfl rfl) ?_
  refine aw_iadd (i := 134) K (dOf ck_mL_law rfl rfl) ?_
  refine aw_eqi (b := ((6 * n + 2 : Nat) : Int)) (ix_ok hn hL 2 (by decide)) ?_
  refine aw_scrld (i := 135) K hX hb (dOf ck_mL_law rfl rfl) (ix_in hn 2 (by decide)) ?_
  refine aw_callV (i := 136) (as := [.inl _, .inl _]) (q := 176) K (dOf ck_mL_law rfl rfl) al_OneBreathLaw_31 rfl rfl ⟨wd_1344, wd_1345⟩ rfl (Nat.le_of_ble_eq_true rfl) ⟨Nat.le_of_ble_eq_true rfl, Nat.le_of_ble_eq_true rfl⟩ hr (Nat.le_refl _) (met_R_sound h2) (fun bl2 => ?_)
  refine aw_icmp_eq (i := 137) K (dOf ck_mL_law rfl rfl) (t := 1012) (aJ_of (by decide +kernel)) (fun _ => ?_) (fun z => absurd rfl z)
  have k9 := kk (bl1 ++ bl2)
  rw [← List.append_assoc] at k9
  exact k9
set_option maxHeartbeats 4000000 in
theorem lc_4 {nm : String} {p : Program} {l : Launch} {e : Env} {s : State} {m : MethodId} {args : Array Value} {below : List Frame} {meth : Method} {c : Code} {Q : State → Prop} {D : va_G} {cA : FieldType → ClassId} {ad adV : Nat → Nat} {z0 : Nat} {al : List Nat} {mm : aM} {nc ns : Nat} (K : aK p s m args meth c (mL_law nm) D cA ad adV z0) {n L : Nat} {xs : Nat → Int32} (hX : va_X (ad 21) L xs s s.heap) (hb : ad 21 < z0) (hn : 6 * n + 6 ≤ L) (hL : L ≤ 384) (hr : nc + 0 ≤ 600000 ∧ ns + 0 ≤ 7302250) {r : Int} {mm2 : aM} (h1 : B_word ((xs (6 * n + 1)).toInt) ((xs (6 * n + 2)).toInt) mm = some r) (h2 : R_word ((xs (6 * n + 1)).toInt) ((xs (6 * n + 2)).toInt) mm = some (r, mm2)) (kk : ∀ bl, AW p l e room_1 s m args below meth c Q D cA ad z0 (mL_law nm) (al ++ bl) 1012 (lawLv n) [] SH mm2 nc ns) : AW p l e room_1 s m args below meth c Q D cA ad z0 (mL_law nm) al 140 (lawLv n) [] SH mm nc ns := by
  unfold lawLv
  refine aw_aload_n (i := 140) K (dOf ck_mL_law rfl rfl) rfl ?_
  refine aw_sload_n (i := 141) K (dOf ck_mL_law rfl rfl) rfl ?_
  refine aw_iload_n (i := 142) K (dOf ck_mL_law rfl rfl) rfl ?_
  refine aw_iconst (i := 143) K (n := 1) (i32 _ rfl) (dOf ck_mL_law rfl rfl) ?_
  refine aw_iadd (i := 144) K (dOf ck_mL_law rfl rfl) ?_
  refine aw_eqi (b := ((6 * n + 1 : Nat) : Int)) (ix_ok hn hL 1 (by decide)) ?_
  refine aw_scrld (i := 145) K hX hb (dOf ck_mL_law rfl rfl) (ix_in hn 1 (by decide)) ?_
  refine aw_sload_n (i := 146) K (dOf ck_mL_law rfl rfl) rfl ?_
  refine aw_iload_n (i := 147) K (dOf ck_mL_law rfl rfl) rfl ?_
  refine aw_iconst (i := 148) K (n := 2) (i32 _ rfl) (dOf ck_mL_law rfl rfl) ?_
  refine aw_iadd (i := 149) K (dOf ck_mL_law rfl rfl) ?_
  refine aw_eqi (b := ((6 * n + 2 : Nat) : Int)) (ix_ok hn hL 2 (by decide)) ?_
  refine aw_scrld (i := 150) K hX hb (dOf ck_mL_law rfl rfl) (ix_in hn 2 (by decide)) ?_
  refine aw_callV (i := 151) (as := [.inl _, .inl _]) (q := 0) K (dOf ck_mL_law rfl rfl) al_OneBreathLaw_32 rfl rfl ⟨wd_629, wd_630⟩ rfl (Nat.le_of_ble_eq_true rfl) ⟨Nat.le_of_ble_eq_true rfl, Nat.le_of_ble_eq_true rfl⟩ hr (Nat.le_refl _) (met_B_word h1) (fun bl1 => ?_)
  refine aw_aload_n (i := 152) K (dOf ck_mL_law rfl rfl) rfl ?_
  refine aw_sload_n (i := 153) K (dOf ck_mL_law rfl rfl) rfl ?_
  refine aw_iload_n (i := 154) K (dOf ck_mL_law rfl rfl) rfl ?_
  refine aw_iconst (i := 155) K (n := 1) (i32 _ rfl) (dOf ck_mL_law rfl rfl) ?_
  refine aw_iadd (i := 156) K (dOf ck_mL_law rfl rfl) ?_
  refine aw_eqi (b := ((6 * n + 1 : Nat) : Int)) (ix_ok hn hL 1 (by decide)) ?_
  refine aw_scrld (i := 157) K hX hb (dOf ck_mL_law rfl rfl) (ix_in hn 1 (by decide)) ?_
  refine aw_sload_n (i := 158) K (dOf ck_mL_law rfl rfl) rfl ?_
  refine aw_iload_n (i := 159) K (dOf ck_mL_law rfl rfl) rfl ?_
  refine aw_iconst (i := 160) K (n := 2) (i32 _ rfl) (dOf ck_mL_law rfl rfl) ?_
  refine aw_iadd (i := 161) K (dOf ck_mL_law rfl rfl) ?_
  refine aw_eqi (b := ((6 * n + 2 : Nat) : Int)) (ix_ok hn hL 2 (by decide)) ?_
  refine aw_scrld (i := 162) K hX hb (dOf ck_mL_law rfl rfl) (ix_in hn 2 (by decide)) ?_
  refine aw_callV (i := 163) (as := [.inl _, .inl _]) (q := 176) K (dOf ck_mL_law rfl rfl) al_OneBreathLaw_35 rfl rfl ⟨wd_1349, wd_1350⟩ rfl (Nat.le_of_ble_eq_true rfl) ⟨Nat.le_of_ble_eq_true rfl, Nat.le_of_ble_eq_true rfl⟩ hr (Nat.le_refl _) (met_R_word h2) (fun bl2 => ?_)
  refine aw_icmp_eq (i := 164) K (dOf ck_mL_law rfl rfl) (t := 1012) (aJ_of (by decide +kernel)) (fun _ => ?_) (fun z => absurd rfl z)
  have k9 := kk (bl1 ++ bl2)
  rw [← List.append_assoc] at k9
  exact k9
set_option maxHeartbeats 4000000 in
theorem lc_5 {nm : String} {p : Program} {l : Launch} {e : Env} {s : State} {m : MethodId} {args : Array Value} {below : List Frame} {meth : Method} {c : Code} {Q : State → Prop} {D : va_G} {cA : FieldType → ClassId} {ad adV : Nat → Nat} {z0 : Nat} {al : List Nat} {mm : aM} {nc ns : Nat} (K : aK p s m args meth c (mL_law nm) D cA ad adV z0) {n L : Nat} {xs : Nat → Int32} (hX : va_X (ad 21) L xs s s.heap) (hb : ad 21 < z0) (hn : 6 * n + 6 ≤ L) (hL : L ≤ 384) (hr : nc + 0 ≤ 600000 ∧ ns + 0 ≤ 7302250) {r : Int} {mm2 : aM} (h1 : B_shape ((xs (6 * n + 1)).toInt) ((xs (6 * n + 2)).toInt) mm = some r) (h2 : R_shape ((xs (6 * n + 1)).toInt) ((xs (6 * n + 2)).toInt) mm = some (r, mm2)) (kk : ∀ bl, AW p l e room_1 s m args below meth c Q D cA ad z0 (mL_law nm) (al ++ bl) 1012 (lawLv n) [] SH mm2 nc ns) : AW p l e room_1 s m args below meth c Q D cA ad z0 (mL_law nm) al 167 (lawLv n) [] SH mm nc ns := by
  unfold lawLv
  refine aw_aload_n (i := 167) K (dOf ck_mL_law rfl rfl) rfl ?_
  refine aw_sload_n (i := 168) K (dOf ck_mL_law rfl rfl) rfl ?_
  refine aw_iload_n (i := 169) K (dOf ck_mL_law rfl rfl) rfl ?_
  refine aw_iconst (i := 170) K (n := 1) (i32 _ rfl) (dOf ck_mL_law rfl rfl) ?_
  refine aw_iadd (i := 171) K (dOf ck_mL_law rfl rfl) ?_
  refine aw_eqi (b := ((6 * n + 1 : Nat) : Int)) (ix_ok hn hL 1 (by decide)) ?_
  refine aw_scrld (i := 172) K hX hb (dOf ck_mL_law rfl rfl) (ix_in hn 1 (by decide)) ?_
  refine aw_sload_n (i := 173) K (dOf ck_mL_law rfl rfl) rfl ?_
  refine aw_iload_n (i := 174) K (dOf ck_mL_law rfl rfl) rfl ?_
  refine aw_iconst (i := 175) K (n := 2) (i32 _ rfl) (dOf ck_mL_law rfl rfl) ?_
  refine aw_iadd (i := 176) K (dOf ck_mL_law rfl rfl) ?_
  refine aw_eqi (b := ((6 * n + 2 : Nat) : Int)) (ix_ok hn hL 2 (by decide)) ?_
  refine aw_scrld (i := 177) K hX hb (dOf ck_mL_law rfl rfl) (ix_in hn 2 (by decide)) ?_
  refine aw_callV (i := 178) (as := [.inl _, .inl _]) (q := 0) K (dOf ck_mL_law rfl rfl) al_OneBreathLaw_36 rfl rfl ⟨wd_637, wd_638⟩ rfl (Nat.le_of_ble_eq_true rfl) ⟨Nat.le_of_ble_eq_true rfl, Nat.le_of_ble_eq_true rfl⟩ hr (Nat.le_refl _) (met_B_shape h1) (fun bl1 => ?_)
  refine aw_aload_n (i := 179) K (dOf ck_mL_law rfl rfl) rfl ?_
  refine aw_sload_n (i := 180) K (dOf ck_mL_law rfl rfl) rfl ?_
  refine aw_iload_n (i := 181) K (dOf ck_mL_law rfl rfl) rfl ?_
  refine aw_iconst (i := 182) K (n := 1) (i32 _ rfl) (dOf ck_mL_law rfl rfl) ?_
  refine aw_iadd (i := 183) K (dOf ck_mL_law rfl rfl) ?_
  refine aw_eqi (b := ((6 * n + 1 : Nat) : Int)) (ix_ok hn hL 1 (by decide)) ?_
  refine aw_scrld (i := 184) K hX hb (dOf ck_mL_law rfl rfl) (ix_in hn 1 (by decide)) ?_
  refine aw_sload_n (i := 185) K (dOf ck_mL_law rfl rfl) rfl ?_
  refine aw_iload_n (i := 186) K (dOf ck_mL_law rfl rfl) rfl ?_
  refine aw_iconst (i := 187) K (n := 2) (i32 _ rfl) (dOf ck_mL_law rfl rfl) ?_
  refine aw_iadd (i := 188) K (dOf ck_mL_law rfl rfl) ?_
  refine aw_eqi (b := ((6 * n + 2 : Nat) : Int)) (ix_ok hn hL 2 (by decide)) ?_
  refine aw_scrld (i := 189) K hX hb (dOf ck_mL_law rfl rfl) (ix_in hn 2 (by decide)) ?_
  refine aw_callV (i := 190) (as := [.inl _, .inl _]) (q := 176) K (dOf ck_mL_law rfl rfl) al_OneBreathLaw_39 rfl rfl ⟨wd_1357, wd_1358⟩ rfl (Nat.le_of_ble_eq_true rfl) ⟨Nat.le_of_ble_eq_true rfl, Nat.le_of_ble_eq_true rfl⟩ hr (Nat.le_refl _) (met_R_shape h2) (fun bl2 => ?_)
  refine aw_icmp_eq (i := 191) K (dOf ck_mL_law rfl rfl) (t := 1012) (aJ_of (by decide +kernel)) (fun _ => ?_) (fun z => absurd rfl z)
  have k9 := kk (bl1 ++ bl2)
  rw [← List.append_assoc] at k9
  exact k9
set_option maxHeartbeats 4000000 in
theorem lc_6 {nm : String} {p : Program} {l : Launch} {e : Env} {s : State} {m : MethodId} {args : Array Value} {below : List Frame} {meth : Method} {c : Code} {Q : State → Prop} {D : va_G} {cA : FieldType → ClassId} {ad adV : Nat → Nat} {z0 : Nat} {al : List Nat} {mm : aM} {nc ns : Nat} (K : aK p s m args meth c (mL_law nm) D cA ad adV z0) {n L : Nat} {xs : Nat → Int32} (hX : va_X (ad 21) L xs s s.heap) (hb : ad 21 < z0) (hn : 6 * n + 6 ≤ L) (hL : L ≤ 384) (hr : nc + 0 ≤ 600000 ∧ ns + 0 ≤ 7302250) {r : Int} {mm2 : aM} (h1 : B_behind ((xs (6 * n + 1)).toInt) mm = some r) (h2 : R_behind ((xs (6 * n + 1)).toInt) mm = some (r, mm2)) (kk : ∀ bl, AW p l e room_1 s m args below meth c Q D cA ad z0 (mL_law nm) (al ++ bl) 1012 (lawLv n) [] SH mm2 nc ns) : AW p l e room_1 s m args below meth c Q D cA ad z0 (mL_law nm) al 194 (lawLv n) [] SH mm nc ns := by
  unfold lawLv
  refine aw_aload_n (i := 194) K (dOf ck_mL_law rfl rfl) rfl ?_
  refine aw_sload_n (i := 195) K (dOf ck_mL_law rfl rfl) rfl ?_
  refine aw_iload_n (i := 196) K (dOf ck_mL_law rfl rfl) rfl ?_
  refine aw_iconst (i := 197) K (n := 1) (i32 _ rfl) (dOf ck_mL_law rfl rfl) ?_
  refine aw_iadd (i := 198) K (dOf ck_mL_law rfl rfl) ?_
  refine aw_eqi (b := ((6 * n + 1 : Nat) : Int)) (ix_ok hn hL 1 (by decide)) ?_
  refine aw_scrld (i := 199) K hX hb (dOf ck_mL_law rfl rfl) (ix_in hn 1 (by decide)) ?_
  refine aw_callV (i := 200) (as := [.inl _]) (q := 0) K (dOf ck_mL_law rfl rfl) al_OneBreathLaw_40 rfl rfl ⟨wd_641, wd_642⟩ rfl (Nat.le_of_ble_eq_true rfl) ⟨Nat.le_of_ble_eq_true rfl, Nat.le_of_ble_eq_true rfl⟩ hr (Nat.le_refl _) (met_B_behind h1) (fun bl1 => ?_)
  refine aw_aload_n (i := 201) K (dOf ck_mL_law rfl rfl) rfl ?_
  refine aw_sload_n (i := 202) K (dOf ck_mL_law rfl rfl) rfl ?_
  refine aw_iload_n (i := 203) K (dOf ck_mL_law rfl rfl) rfl ?_
  refine aw_iconst (i := 204) K (n := 1) (i32 _ rfl) (dOf ck_mL_law rfl rfl) ?_
  refine aw_iadd (i := 205) K (dOf ck_mL_law rfl rfl) ?_
  refine aw_eqi (b := ((6 * n + 1 : Nat) : Int)) (ix_ok hn hL 1 (by decide)) ?_
  refine aw_scrld (i := 206) K hX hb (dOf ck_mL_law rfl rfl) (ix_in hn 1 (by decide)) ?_
  refine aw_callV (i := 207) (as := [.inl _]) (q := 176) K (dOf ck_mL_law rfl rfl) al_OneBreathLaw_43 rfl rfl ⟨wd_1362, wd_1363⟩ rfl (Nat.le_of_ble_eq_true rfl) ⟨Nat.le_of_ble_eq_true rfl, Nat.le_of_ble_eq_true rfl⟩ hr (Nat.le_refl _) (met_R_behind h2) (fun bl2 => ?_)
  refine aw_icmp_eq (i := 208) K (dOf ck_mL_law rfl rfl) (t := 1012) (aJ_of (by decide +kernel)) (fun _ => ?_) (fun z => absurd rfl z)
  have k9 := kk (bl1 ++ bl2)
  rw [← List.append_assoc] at k9
  exact k9
set_option maxHeartbeats 4000000 in
theorem lc_7 {nm : String} {p : Program} {l : Launch} {e : Env} {s : State} {m : MethodId} {args : Array Value} {below : List Frame} {meth : Method} {c : Code} {Q : State → Prop} {D : va_G} {cA : FieldType → ClassId} {ad adV : Nat → Nat} {z0 : Nat} {al : List Nat} {mm : aM} {nc ns : Nat} (K : aK p s m args meth c (mL_law nm) D cA ad adV z0) {n L : Nat} {xs : Nat → Int32} (hX : va_X (ad 21) L xs s s.heap) (hb : ad 21 < z0) (hn : 6 * n + 6 ≤ L) (hL : L ≤ 384) (hr : nc + 0 ≤ 600000 ∧ ns + 0 ≤ 7302250) {r : Int} {mm2 : aM} (h1 : B_ends ((xs (6 * n + 1)).toInt) mm = some r) (h2 : R_ends ((xs (6 * n + 1)).toInt) mm = some (r, mm2)) (kk : ∀ bl, AW p l e room_1 s m args below meth c Q D cA ad z0 (mL_law nm) (al ++ bl) 1012 (lawLv n) [] SH mm2 nc ns) : AW p l e room_1 s m args below meth c Q D cA ad z0 (mL_law nm) al 211 (lawLv n) [] SH mm nc ns := by
  unfold lawLv
  refine aw_aload_n (i := 211) K (dOf ck_mL_law rfl rfl) rfl ?_
  refine aw_sload_n (i := 212) K (dOf ck_mL_law rfl rfl) rfl ?_
  refine aw_iload_n (i := 213) K (dOf ck_mL_law rfl rfl) rfl ?_
  refine aw_iconst (i := 214) K (n := 1) (i32 _ rfl) (dOf ck_mL_law rfl rfl) ?_
  refine aw_iadd (i := 215) K (dOf ck_mL_law rfl rfl) ?_
  refine aw_eqi (b := ((6 * n + 1 : Nat) : Int)) (ix_ok hn hL 1 (by decide)) ?_
  refine aw_scrld (i := 216) K hX hb (dOf ck_mL_law rfl rfl) (ix_in hn 1 (by decide)) ?_
  refine aw_callV (i := 217) (as := [.inl _]) (q := 0) K (dOf ck_mL_law rfl rfl) al_OneBreathLaw_44 rfl rfl ⟨wd_648, wd_649⟩ rfl (Nat.le_of_ble_eq_true rfl) ⟨Nat.le_of_ble_eq_true rfl, Nat.le_of_ble_eq_true rfl⟩ hr (Nat.le_refl _) (met_B_ends h1) (fun bl1 => ?_)
  refine aw_aload_n (i := 218) K (dOf ck_mL_law rfl rfl) rfl ?_
  refine aw_sload_n (i := 219) K (dOf ck_mL_law rfl rfl) rfl ?_
  refine aw_iload_n (i := 220) K (dOf ck_mL_law rfl rfl) rfl ?_
  refine aw_iconst (i := 221) K (n := 1) (i32 _ rfl) (dOf ck_mL_law rfl rfl) ?_
  refine aw_iadd (i := 222) K (dOf ck_mL_law rfl rfl) ?_
  refine aw_eqi (b := ((6 * n + 1 : Nat) : Int)) (ix_ok hn hL 1 (by decide)) ?_
  refine aw_scrld (i := 223) K hX hb (dOf ck_mL_law rfl rfl) (ix_in hn 1 (by decide)) ?_
  refine aw_callV (i := 224) (as := [.inl _]) (q := 176) K (dOf ck_mL_law rfl rfl) al_OneBreathLaw_47 rfl rfl ⟨wd_1367, wd_1368⟩ rfl (Nat.le_of_ble_eq_true rfl) ⟨Nat.le_of_ble_eq_true rfl, Nat.le_of_ble_eq_true rfl⟩ hr (Nat.le_refl _) (met_R_ends h2) (fun bl2 => ?_)
  refine aw_icmp_eq (i := 225) K (dOf ck_mL_law rfl rfl) (t := 1012) (aJ_of (by decide +kernel)) (fun _ => ?_) (fun z => absurd rfl z)
  have k9 := kk (bl1 ++ bl2)
  rw [← List.append_assoc] at k9
  exact k9
set_option maxHeartbeats 4000000 in
theorem lc_8 {nm : String} {p : Program} {l : Launch} {e : Env} {s : State} {m : MethodId} {args : Array Value} {below : List Frame} {meth : Method} {c : Code} {Q : State → Prop} {D : va_G} {cA : FieldType → ClassId} {ad adV : Nat → Nat} {z0 : Nat} {al : List Nat} {mm : aM} {nc ns : Nat} (K : aK p s m args meth c (mL_law nm) D cA ad adV z0) {n L : Nat} {xs : Nat → Int32} (hX : va_X (ad 21) L xs s s.heap) (hb : ad 21 < z0) (hn : 6 * n + 6 ≤ L) (hL : L ≤ 384) (hr : nc + 0 ≤ 600000 ∧ ns + 0 ≤ 7302250) {r : Int} {mm1 mm2 : aM} (h1 : B_spelt ((xs (6 * n + 1)).toInt) mm = some (r, mm1)) (h2 : R_spelt ((xs (6 * n + 1)).toInt) mm1 = some (r, mm2)) (kk : ∀ bl, AW p l e room_1 s m args below meth c Q D cA ad z0 (mL_law nm) (al ++ bl) 1012 (lawLv n) [] SH mm2 nc ns) : AW p l e room_1 s m args below meth c Q D cA ad z0 (mL_law nm) al 228 (lawLv n) [] SH mm nc ns := by
  unfold lawLv
  refine aw_aload_n (i := 228) K (dOf ck_mL_law rfl rfl) rfl ?_
  refine aw_sload_n (i := 229) K (dOf ck_mL_law rfl rfl) rfl ?_
  refine aw_iload_n (i := 230) K (dOf ck_mL_law rfl rfl) rfl ?_
  refine aw_iconst (i := 231) K (n := 1) (i32 _ rfl) (dOf ck_mL_law rfl rfl) ?_
  refine aw_iadd (i := 232) K (dOf ck_mL_law rfl rfl) ?_
  refine aw_eqi (b := ((6 * n + 1 : Nat) : Int)) (ix_ok hn hL 1 (by decide)) ?_
  refine aw_scrld (i := 233) K hX hb (dOf ck_mL_law rfl rfl) (ix_in hn 1 (by decide)) ?_
  refine aw_callV (i := 234) (as := [.inl _]) (q := 0) K (dOf ck_mL_law rfl rfl) al_OneBreathLaw_48 rfl rfl ⟨wd_652, wd_653⟩ rfl (Nat.le_of_ble_eq_true rfl) ⟨Nat.le_of_ble_eq_true rfl, Nat.le_of_ble_eq_true rfl⟩ hr (Nat.le_refl _) (met_B_spelt h1) (fun bl1 => ?_)
  refine aw_aload_n (i := 235) K (dOf ck_mL_law rfl rfl) rfl ?_
  refine aw_sload_n (i := 236) K (dOf ck_mL_law rfl rfl) rfl ?_
  refine aw_iload_n (i := 237) K (dOf ck_mL_law rfl rfl) rfl ?_
  refine aw_iconst (i := 238) K (n := 1) (i32 _ rfl) (dOf ck_mL_law rfl rfl) ?_
  refine aw_iadd (i := 239) K (dOf ck_mL_law rfl rfl) ?_
  refine aw_eqi (b := ((6 * n + 1 : Nat) : Int)) (ix_ok hn hL 1 (by decide)) ?_
  refine aw_scrld (i := 240) K hX hb (dOf ck_mL_law rfl rfl) (ix_in hn 1 (by decide)) ?_
  refine aw_callV (i := 241) (as := [.inl _]) (q := 176) K (dOf ck_mL_law rfl rfl) al_OneBreathLaw_51 rfl rfl ⟨wd_1371, wd_1372⟩ rfl (Nat.le_of_ble_eq_true rfl) ⟨Nat.le_of_ble_eq_true rfl, Nat.le_of_ble_eq_true rfl⟩ hr (Nat.le_refl _) (met_R_spelt h2) (fun bl2 => ?_)
  refine aw_icmp_eq (i := 242) K (dOf ck_mL_law rfl rfl) (t := 1012) (aJ_of (by decide +kernel)) (fun _ => ?_) (fun z => absurd rfl z)
  have k9 := kk (bl1 ++ bl2)
  rw [← List.append_assoc] at k9
  exact k9
set_option maxHeartbeats 4000000 in
theorem lc_9 {nm : String} {p : Program} {l : Launch} {e : Env} {s : State} {m : MethodId} {args : Array Value} {below : List Frame} {meth : Method} {c : Code} {Q : State → Prop} {D : va_G} {cA : FieldType → ClassId} {ad adV : Nat → Nat} {z0 : Nat} {al : List Nat} {mm : aM} {nc ns : Nat} (K : aK p s m args meth c (mL_law nm) D cA ad adV z0) {n L : Nat} {xs : Nat → Int32} (hX : va_X (ad 21) L xs s s.heap) (hb : ad 21 < z0) (hn : 6 * n + 6 ≤ L) (hL : L ≤ 384) (hr : nc + 0 ≤ 600000 ∧ ns + 0 ≤ 7302250) {r : Int} {mm1 mm2 : aM} (h1 : B_unlike ((xs (6 * n + 1)).toInt) ((xs (6 * n + 2)).toInt) mm = some (r, mm1)) (h2 : R_unlike ((xs (6 * n + 1)).toInt) ((xs (6 * n + 2)).toInt) mm1 = some (r, mm2)) (kk : ∀ bl, AW p l e room_1 s m args below meth c Q D cA ad z0 (mL_law nm) (al ++ bl) 1012 (lawLv n) [] SH mm2 nc ns) : AW p l e room_1 s m args below meth c Q D cA ad z0 (mL_law nm) al 245 (lawLv n) [] SH mm nc ns := by
  unfold lawLv
  refine aw_aload_n (i := 245) K (dOf ck_mL_law rfl rfl) rfl ?_
  refine aw_sload_n (i := 246) K (dOf ck_mL_law rfl rfl) rfl ?_
  refine aw_iload_n (i := 247) K (dOf ck_mL_law rfl rfl) rfl ?_
  refine aw_iconst (i := 248) K (n := 1) (i32 _ rfl) (dOf ck_mL_law rfl rfl) ?_
  refine aw_iadd (i := 249) K (dOf ck_mL_law rfl rfl) ?_
  refine aw_eqi (b := ((6 * n + 1 : Nat) : Int)) (ix_ok hn hL 1 (by decide)) ?_
  refine aw_scrld (i := 250) K hX hb (dOf ck_mL_law rfl rfl) (ix_in hn 1 (by decide)) ?_
  refine aw_sload_n (i := 251) K (dOf ck_mL_law rfl rfl) rfl ?_
  refine aw_iload_n (i := 252) K (dOf ck_mL_law rfl rfl) rfl ?_
  refine aw_iconst (i := 253) K (n := 2) (i32 _ rfl) (dOf ck_mL_law rfl rfl) ?_
  refine aw_iadd (i := 254) K (dOf ck_mL_law rfl rfl) ?_
  refine aw_eqi (b := ((6 * n + 2 : Nat) : Int)) (ix_ok hn hL 2 (by decide)) ?_
  refine aw_scrld (i := 255) K hX hb (dOf ck_mL_law rfl rfl) (ix_in hn 2 (by decide)) ?_
  refine aw_callV (i := 256) (as := [.inl _, .inl _]) (q := 0) K (dOf ck_mL_law rfl rfl) al_OneBreathLaw_52 rfl rfl ⟨wd_665, wd_666⟩ rfl (Nat.le_of_ble_eq_true rfl) ⟨Nat.le_of_ble_eq_true rfl, Nat.le_of_ble_eq_true rfl⟩ hr (Nat.le_refl _) (met_B_unlike h1) (fun bl1 => ?_)
  refine aw_aload_n (i := 257) K (dOf ck_mL_law rfl rfl) rfl ?_
  refine aw_sload_n (i := 258) K (dOf ck_mL_law rfl rfl) rfl ?_
  refine aw_iload_n (i := 259) K (dOf ck_mL_law rfl rfl) rfl ?_
  refine aw_iconst (i := 260) K (n := 1) (i32 _ rfl) (dOf ck_mL_law rfl rfl) ?_
  refine aw_iadd (i := 261) K (dOf ck_mL_law rfl rfl) ?_
  refine aw_eqi (b := ((6 * n + 1 : Nat) : Int)) (ix_ok hn hL 1 (by decide)) ?_
  refine aw_scrld (i := 262) K hX hb (dOf ck_mL_law rfl rfl) (ix_in hn 1 (by decide)) ?_
  refine aw_sload_n (i := 263) K (dOf ck_mL_law rfl rfl) rfl ?_
  refine aw_iload_n (i := 264) K (dOf ck_mL_law rfl rfl) rfl ?_
  refine aw_iconst (i := 265) K (n := 2) (i32 _ rfl) (dOf ck_mL_law rfl rfl) ?_
  refine aw_iadd (i := 266) K (dOf ck_mL_law rfl rfl) ?_
  refine aw_eqi (b := ((6 * n + 2 : Nat) : Int)) (ix_ok hn hL 2 (by decide)) ?_
  refine aw_scrld (i := 267) K hX hb (dOf ck_mL_law rfl rfl) (ix_in hn 2 (by decide)) ?_
  refine aw_callV (i := 268) (as := [.inl _, .inl _]) (q := 176) K (dOf ck_mL_law rfl rfl) al_OneBreathLaw_55 rfl rfl ⟨wd_1375, wd_1376⟩ rfl (Nat.le_of_ble_eq_true rfl) ⟨Nat.le_of_ble_eq_true rfl, Nat.le_of_ble_eq_true rfl⟩ hr (Nat.le_refl _) (met_R_unlike h2) (fun bl2 => ?_)
  refine aw_icmp_eq (i := 269) K (dOf ck_mL_law rfl rfl) (t := 1012) (aJ_of (by decide +kernel)) (fun _ => ?_) (fun z => absurd rfl z)
  have k9 := kk (bl1 ++ bl2)
  rw [← List.append_assoc] at k9
  exact k9
set_option maxHeartbeats 4000000 in
theorem lc_10 {nm : String} {p : Program} {l : Launch} {e : Env} {s : State} {m : MethodId} {args : Array Value} {below : List Frame} {meth : Method} {c : Code} {Q : State → Prop} {D : va_G} {cA : FieldType → ClassId} {ad adV : Nat → Nat} {z0 : Nat} {al : List Nat} {mm : aM} {nc ns : Nat} (K : aK p s m args meth c (mL_law nm) D cA ad adV z0) {n L : Nat} {xs : Nat → Int32} (hX : va_X (ad 21) L xs s s.heap) (hb : ad 21 < z0) (hn : 6 * n + 6 ≤ L) (hL : L ≤ 384) (hr : nc + 0 ≤ 600000 ∧ ns + 0 ≤ 7302250) {r : Int} {mm1 mm2 : aM} (h1 : B_near ((xs (6 * n + 1)).toInt) mm = some (r, mm1)) (h2 : R_near ((xs (6 * n + 1)).toInt) mm1 = some (r, mm2)) (kk : ∀ bl, AW p l e room_1 s m args below meth c Q D cA ad z0 (mL_law nm) (al ++ bl) 1012 (lawLv n) [] SH mm2 nc ns) : AW p l e room_1 s m args below meth c Q D cA ad z0 (mL_law nm) al 272 (lawLv n) [] SH mm nc ns := by
  unfold lawLv
  refine aw_aload_n (i := 272) K (dOf ck_mL_law rfl rfl) rfl ?_
  refine aw_sload_n (i := 273) K (dOf ck_mL_law rfl rfl) rfl ?_
  refine aw_iload_n (i := 274) K (dOf ck_mL_law rfl rfl) rfl ?_
  refine aw_iconst (i := 275) K (n := 1) (i32 _ rfl) (dOf ck_mL_law rfl rfl) ?_
  refine aw_iadd (i := 276) K (dOf ck_mL_law rfl rfl) ?_
  refine aw_eqi (b := ((6 * n + 1 : Nat) : Int)) (ix_ok hn hL 1 (by decide)) ?_
  refine aw_scrld (i := 277) K hX hb (dOf ck_mL_law rfl rfl) (ix_in hn 1 (by decide)) ?_
  refine aw_callV (i := 278) (as := [.inl _]) (q := 0) K (dOf ck_mL_law rfl rfl) al_OneBreathLaw_56 rfl rfl ⟨wd_680, wd_681⟩ rfl (Nat.le_of_ble_eq_true rfl) ⟨Nat.le_of_ble_eq_true rfl, Nat.le_of_ble_eq_true rfl⟩ hr (Nat.le_refl _) (met_B_near h1) (fun bl1 => ?_)
  refine aw_aload_n (i := 279) K (dOf ck_mL_law rfl rfl) rfl ?_
  refine aw_sload_n (i := 280) K (dOf ck_mL_law rfl rfl) rfl ?_
  refine aw_iload_n (i := 281) K (dOf ck_mL_law rfl rfl) rfl ?_
  refine aw_iconst (i := 282) K (n := 1) (i32 _ rfl) (dOf ck_mL_law rfl rfl) ?_
  refine aw_iadd (i := 283) K (dOf ck_mL_law rfl rfl) ?_
  refine aw_eqi (b := ((6 * n + 1 : Nat) : Int)) (ix_ok hn hL 1 (by decide)) ?_
  refine aw_scrld (i := 284) K hX hb (dOf ck_mL_law rfl rfl) (ix_in hn 1 (by decide)) ?_
  refine aw_callV (i := 285) (as := [.inl _]) (q := 176) K (dOf ck_mL_law rfl rfl) al_OneBreathLaw_59 rfl rfl ⟨wd_1385, wd_1386⟩ rfl (Nat.le_of_ble_eq_true rfl) ⟨Nat.le_of_ble_eq_true rfl, Nat.le_of_ble_eq_true rfl⟩ hr (Nat.le_refl _) (met_R_near h2) (fun bl2 => ?_)
  refine aw_icmp_eq (i := 286) K (dOf ck_mL_law rfl rfl) (t := 1012) (aJ_of (by decide +kernel)) (fun _ => ?_) (fun z => absurd rfl z)
  have k9 := kk (bl1 ++ bl2)
  rw [← List.append_assoc] at k9
  exact k9
set_option maxHeartbeats 4000000 in
theorem lc_11 {nm : String} {p : Program} {l : Launch} {e : Env} {s : State} {m : MethodId} {args : Array Value} {below : List Frame} {meth : Method} {c : Code} {Q : State → Prop} {D : va_G} {cA : FieldType → ClassId} {ad adV : Nat → Nat} {z0 : Nat} {al : List Nat} {mm : aM} {nc ns : Nat} (K : aK p s m args meth c (mL_law nm) D cA ad adV z0) {n L : Nat} {xs : Nat → Int32} (hX : va_X (ad 21) L xs s s.heap) (hb : ad 21 < z0) (hn : 6 * n + 6 ≤ L) (hL : L ≤ 384) (hr : nc + 0 ≤ 600000 ∧ ns + 0 ≤ 7302250) {r : Int} {mm1 mm2 : aM} (h1 : B_judge ((xs (6 * n + 1)).toInt) ((xs (6 * n + 2)).toInt) mm = some (r, mm1)) (h2 : R_judge ((xs (6 * n + 1)).toInt) ((xs (6 * n + 2)).toInt) mm1 = some (r, mm2)) (kk : ∀ bl, AW p l e room_1 s m args below meth c Q D cA ad z0 (mL_law nm) (al ++ bl) 1012 (lawLv n) [] SH mm2 nc ns) : AW p l e room_1 s m args below meth c Q D cA ad z0 (mL_law nm) al 289 (lawLv n) [] SH mm nc ns := by
  unfold lawLv
  refine aw_aload_n (i := 289) K (dOf ck_mL_law rfl rfl) rfl ?_
  refine aw_sload_n (i := 290) K (dOf ck_mL_law rfl rfl) rfl ?_
  refine aw_iload_n (i := 291) K (dOf ck_mL_law rfl rfl) rfl ?_
  refine aw_iconst (i := 292) K (n := 1) (i32 _ rfl) (dOf ck_mL_law rfl rfl) ?_
  refine aw_iadd (i := 293) K (dOf ck_mL_law rfl rfl) ?_
  refine aw_eqi (b := ((6 * n + 1 : Nat) : Int)) (ix_ok hn hL 1 (by decide)) ?_
  refine aw_scrld (i := 294) K hX hb (dOf ck_mL_law rfl rfl) (ix_in hn 1 (by decide)) ?_
  refine aw_sload_n (i := 295) K (dOf ck_mL_law rfl rfl) rfl ?_
  refine aw_iload_n (i := 296) K (dOf ck_mL_law rfl rfl) rfl ?_
  refine aw_iconst (i := 297) K (n := 2) (i32 _ rfl) (dOf ck_mL_law rfl rfl) ?_
  refine aw_iadd (i := 298) K (dOf ck_mL_law rfl rfl) ?_
  refine aw_eqi (b := ((6 * n + 2 : Nat) : Int)) (ix_ok hn hL 2 (by decide)) ?_
  refine aw_scrld (i := 299) K hX hb (dOf ck_mL_law rfl rfl) (ix_in hn 2 (by decide)) ?_
  refine aw_callV (i := 300) (as := [.inl _, .inl _]) (q := 0) K (dOf ck_mL_law rfl rfl) al_OneBreathLaw_60 rfl rfl ⟨wd_684, wd_685⟩ rfl (Nat.le_of_ble_eq_true rfl) ⟨Nat.le_of_ble_eq_true rfl, Nat.le_of_ble_eq_true rfl⟩ hr (Nat.le_refl _) (met_B_judge h1) (fun bl1 => ?_)
  refine aw_aload_n (i := 301) K (dOf ck_mL_law rfl rfl) rfl ?_
  refine aw_sload_n (i := 302) K (dOf ck_mL_law rfl rfl) rfl ?_
  refine aw_iload_n (i := 303) K (dOf ck_mL_law rfl rfl) rfl ?_
  refine aw_iconst (i := 304) K (n := 1) (i32 _ rfl) (dOf ck_mL_law rfl rfl) ?_
  refine aw_iadd (i := 305) K (dOf ck_mL_law rfl rfl) ?_
  refine aw_eqi (b := ((6 * n + 1 : Nat) : Int)) (ix_ok hn hL 1 (by decide)) ?_
  refine aw_scrld (i := 306) K hX hb (dOf ck_mL_law rfl rfl) (ix_in hn 1 (by decide)) ?_
  refine aw_sload_n (i := 307) K (dOf ck_mL_law rfl rfl) rfl ?_
  refine aw_iload_n (i := 308) K (dOf ck_mL_law rfl rfl) rfl ?_
  refine aw_iconst (i := 309) K (n := 2) (i32 _ rfl) (dOf ck_mL_law rfl rfl) ?_
  refine aw_iadd (i := 310) K (dOf ck_mL_law rfl rfl) ?_
  refine aw_eqi (b := ((6 * n + 2 : Nat) : Int)) (ix_ok hn hL 2 (by decide)) ?_
  refine aw_scrld (i := 311) K hX hb (dOf ck_mL_law rfl rfl) (ix_in hn 2 (by decide)) ?_
  refine aw_callV (i := 312) (as := [.inl _, .inl _]) (q := 176) K (dOf ck_mL_law rfl rfl) al_OneBreathLaw_63 rfl rfl ⟨wd_1389, wd_1390⟩ rfl (Nat.le_of_ble_eq_true rfl) ⟨Nat.le_of_ble_eq_true rfl, Nat.le_of_ble_eq_true rfl⟩ hr (Nat.le_refl _) (met_R_judge h2) (fun bl2 => ?_)
  refine aw_icmp_eq (i := 313) K (dOf ck_mL_law rfl rfl) (t := 1012) (aJ_of (by decide +kernel)) (fun _ => ?_) (fun z => absurd rfl z)
  have k9 := kk (bl1 ++ bl2)
  rw [← List.append_assoc] at k9
  exact k9
set_option maxHeartbeats 4000000 in
theorem lc_12 {nm : String} {p : Program} {l : Launch} {e : Env} {s : State} {m : MethodId} {args : Array Value} {below : List Frame} {meth : Method} {c : Code} {Q : State → Prop} {D : va_G} {cA : FieldType → ClassId} {ad adV : Nat → Nat} {z0 : Nat} {al : List Nat} {mm : aM} {nc ns : Nat} (K : aK p s m args meth c (mL_law nm) D cA ad adV z0) {n L : Nat} {xs : Nat → Int32} (hX : va_X (ad 21) L xs s s.heap) (hb : ad 21 < z0) (hn : 6 * n + 6 ≤ L) (hL : L ≤ 384) (hr : nc + 0 ≤ 600000 ∧ ns + 0 ≤ 7302250) {r : Int} {mm1 mm2 : aM} (h1 : B_say ((xs (6 * n + 1)).toInt) mm = some (r, mm1)) (h2 : R_say ((xs (6 * n + 1)).toInt) mm1 = some (r, mm2)) (kk : ∀ bl, AW p l e room_1 s m args below meth c Q D cA ad z0 (mL_law nm) (al ++ bl) 1012 (lawLv n) [] SH mm2 nc ns) : AW p l e room_1 s m args below meth c Q D cA ad z0 (mL_law nm) al 316 (lawLv n) [] SH mm nc ns := by
  unfold lawLv
  refine aw_aload_n (i := 316) K (dOf ck_mL_law rfl rfl) rfl ?_
  refine aw_sload_n (i := 317) K (dOf ck_mL_law rfl rfl) rfl ?_
  refine aw_iload_n (i := 318) K (dOf ck_mL_law rfl rfl) rfl ?_
  refine aw_iconst (i := 319) K (n := 1) (i32 _ rfl) (dOf ck_mL_law rfl rfl) ?_
  refine aw_iadd (i := 320) K (dOf ck_mL_law rfl rfl) ?_
  refine aw_eqi (b := ((6 * n + 1 : Nat) : Int)) (ix_ok hn hL 1 (by decide)) ?_
  refine aw_scrld (i := 321) K hX hb (dOf ck_mL_law rfl rfl) (ix_in hn 1 (by decide)) ?_
  refine aw_callV (i := 322) (as := [.inl _]) (q := 0) K (dOf ck_mL_law rfl rfl) al_OneBreathLaw_64 rfl rfl ⟨wd_709, wd_710⟩ rfl (Nat.le_of_ble_eq_true rfl) ⟨Nat.le_of_ble_eq_true rfl, Nat.le_of_ble_eq_true rfl⟩ hr (Nat.le_refl _) (met_B_say h1) (fun bl1 => ?_)
  refine aw_aload_n (i := 323) K (dOf ck_mL_law rfl rfl) rfl ?_
  refine aw_sload_n (i := 324) K (dOf ck_mL_law rfl rfl) rfl ?_
  refine aw_iload_n (i := 325) K (dOf ck_mL_law rfl rfl) rfl ?_
  refine aw_iconst (i := 326) K (n := 1) (i32 _ rfl) (dOf ck_mL_law rfl rfl) ?_
  refine aw_iadd (i := 327) K (dOf ck_mL_law rfl rfl) ?_
  refine aw_eqi (b := ((6 * n + 1 : Nat) : Int)) (ix_ok hn hL 1 (by decide)) ?_
  refine aw_scrld (i := 328) K hX hb (dOf ck_mL_law rfl rfl) (ix_in hn 1 (by decide)) ?_
  refine aw_callV (i := 329) (as := [.inl _]) (q := 176) K (dOf ck_mL_law rfl rfl) al_OneBreathLaw_67 rfl rfl ⟨wd_1408, wd_1409⟩ rfl (Nat.le_of_ble_eq_true rfl) ⟨Nat.le_of_ble_eq_true rfl, Nat.le_of_ble_eq_true rfl⟩ hr (Nat.le_refl _) (met_R_say h2) (fun bl2 => ?_)
  refine aw_icmp_eq (i := 330) K (dOf ck_mL_law rfl rfl) (t := 1012) (aJ_of (by decide +kernel)) (fun _ => ?_) (fun z => absurd rfl z)
  have k9 := kk (bl1 ++ bl2)
  rw [← List.append_assoc] at k9
  exact k9
set_option maxHeartbeats 4000000 in
theorem lc_13 {nm : String} {p : Program} {l : Launch} {e : Env} {s : State} {m : MethodId} {args : Array Value} {below : List Frame} {meth : Method} {c : Code} {Q : State → Prop} {D : va_G} {cA : FieldType → ClassId} {ad adV : Nat → Nat} {z0 : Nat} {al : List Nat} {mm : aM} {nc ns : Nat} (K : aK p s m args meth c (mL_law nm) D cA ad adV z0) {n L : Nat} {xs : Nat → Int32} (hX : va_X (ad 21) L xs s s.heap) (hb : ad 21 < z0) (hn : 6 * n + 6 ≤ L) (hL : L ≤ 384) (hr : nc + 0 ≤ 600000 ∧ ns + 0 ≤ 7302250) {r : Int} {mm1 mm2 : aM} (h1 : B_line ((xs (6 * n + 1)).toInt) mm = some (r, mm1)) (h2 : R_line ((xs (6 * n + 1)).toInt) mm1 = some (r, mm2)) (kk : ∀ bl, AW p l e room_1 s m args below meth c Q D cA ad z0 (mL_law nm) (al ++ bl) 1012 (lawLv n) [] SH mm2 nc ns) : AW p l e room_1 s m args below meth c Q D cA ad z0 (mL_law nm) al 333 (lawLv n) [] SH mm nc ns := by
  unfold lawLv
  refine aw_aload_n (i := 333) K (dOf ck_mL_law rfl rfl) rfl ?_
  refine aw_sload_n (i := 334) K (dOf ck_mL_law rfl rfl) rfl ?_
  refine aw_iload_n (i := 335) K (dOf ck_mL_law rfl rfl) rfl ?_
  refine aw_iconst (i := 336) K (n := 1) (i32 _ rfl) (dOf ck_mL_law rfl rfl) ?_
  refine aw_iadd (i := 337) K (dOf ck_mL_law rfl rfl) ?_
  refine aw_eqi (b := ((6 * n + 1 : Nat) : Int)) (ix_ok hn hL 1 (by decide)) ?_
  refine aw_scrld (i := 338) K hX hb (dOf ck_mL_law rfl rfl) (ix_in hn 1 (by decide)) ?_
  refine aw_callV (i := 339) (as := [.inl _]) (q := 0) K (dOf ck_mL_law rfl rfl) al_OneBreathLaw_68 rfl rfl ⟨wd_718, wd_719⟩ rfl (Nat.le_of_ble_eq_true rfl) ⟨Nat.le_of_ble_eq_true rfl, Nat.le_of_ble_eq_true rfl⟩ hr (Nat.le_refl _) (met_B_line h1) (fun bl1 => ?_)
  refine aw_aload_n (i := 340) K (dOf ck_mL_law rfl rfl) rfl ?_
  refine aw_sload_n (i := 341) K (dOf ck_mL_law rfl rfl) rfl ?_
  refine aw_iload_n (i := 342) K (dOf ck_mL_law rfl rfl) rfl ?_
  refine aw_iconst (i := 343) K (n := 1) (i32 _ rfl) (dOf ck_mL_law rfl rfl) ?_
  refine aw_iadd (i := 344) K (dOf ck_mL_law rfl rfl) ?_
  refine aw_eqi (b := ((6 * n + 1 : Nat) : Int)) (ix_ok hn hL 1 (by decide)) ?_
  refine aw_scrld (i := 345) K hX hb (dOf ck_mL_law rfl rfl) (ix_in hn 1 (by decide)) ?_
  refine aw_callV (i := 346) (as := [.inl _]) (q := 176) K (dOf ck_mL_law rfl rfl) al_OneBreathLaw_71 rfl rfl ⟨wd_1415, wd_1416⟩ rfl (Nat.le_of_ble_eq_true rfl) ⟨Nat.le_of_ble_eq_true rfl, Nat.le_of_ble_eq_true rfl⟩ hr (Nat.le_refl _) (met_R_line h2) (fun bl2 => ?_)
  refine aw_icmp_eq (i := 347) K (dOf ck_mL_law rfl rfl) (t := 1012) (aJ_of (by decide +kernel)) (fun _ => ?_) (fun z => absurd rfl z)
  have k9 := kk (bl1 ++ bl2)
  rw [← List.append_assoc] at k9
  exact k9
set_option maxHeartbeats 4000000 in
theorem lc_14 {nm : String} {p : Program} {l : Launch} {e : Env} {s : State} {m : MethodId} {args : Array Value} {below : List Frame} {meth : Method} {c : Code} {Q : State → Prop} {D : va_G} {cA : FieldType → ClassId} {ad adV : Nat → Nat} {z0 : Nat} {al : List Nat} {mm : aM} {nc ns : Nat} (K : aK p s m args meth c (mL_law nm) D cA ad adV z0) {n L : Nat} {xs : Nat → Int32} (hX : va_X (ad 21) L xs s s.heap) (hb : ad 21 < z0) (hn : 6 * n + 6 ≤ L) (hL : L ≤ 384) (hr : nc + 0 ≤ 600000 ∧ ns + 0 ≤ 7302250) {r : Int} {mm2 : aM} (h1 : B_at ((xs (6 * n + 1)).toInt) mm = some r) (h2 : R_at ((xs (6 * n + 1)).toInt) mm = some (r, mm2)) (kk : ∀ bl, AW p l e room_1 s m args below meth c Q D cA ad z0 (mL_law nm) (al ++ bl) 1012 (lawLv n) [] SH mm2 nc ns) : AW p l e room_1 s m args below meth c Q D cA ad z0 (mL_law nm) al 350 (lawLv n) [] SH mm nc ns := by
  unfold lawLv
  refine aw_aload_n (i := 350) K (dOf ck_mL_law rfl rfl) rfl ?_
  refine aw_sload_n (i := 351) K (dOf ck_mL_law rfl rfl) rfl ?_
  refine aw_iload_n (i := 352) K (dOf ck_mL_law rfl rfl) rfl ?_
  refine aw_iconst (i := 353) K (n := 1) (i32 _ rfl) (dOf ck_mL_law rfl rfl) ?_
  refine aw_iadd (i := 354) K (dOf ck_mL_law rfl rfl) ?_
  refine aw_eqi (b := ((6 * n + 1 : Nat) : Int)) (ix_ok hn hL 1 (by decide)) ?_
  refine aw_scrld (i := 355) K hX hb (dOf ck_mL_law rfl rfl) (ix_in hn 1 (by decide)) ?_
  refine aw_callV (i := 356) (as := [.inl _]) (q := 0) K (dOf ck_mL_law rfl rfl) al_OneBreathLaw_72 rfl rfl ⟨wd_727, wd_728⟩ rfl (Nat.le_of_ble_eq_true rfl) ⟨Nat.le_of_ble_eq_true rfl, Nat.le_of_ble_eq_true rfl⟩ hr (Nat.le_refl _) (met_B_at h1) (fun bl1 => ?_)
  refine aw_aload_n (i := 357) K (dOf ck_mL_law rfl rfl) rfl ?_
  refine aw_sload_n (i := 358) K (dOf ck_mL_law rfl rfl) rfl ?_
  refine aw_iload_n (i := 359) K (dOf ck_mL_law rfl rfl) rfl ?_
  refine aw_iconst (i := 360) K (n := 1) (i32 _ rfl) (dOf ck_mL_law rfl rfl) ?_
  refine aw_iadd (i := 361) K (dOf ck_mL_law rfl rfl) ?_
  refine aw_eqi (b := ((6 * n + 1 : Nat) : Int)) (ix_ok hn hL 1 (by decide)) ?_
  refine aw_scrld (i := 362) K hX hb (dOf ck_mL_law rfl rfl) (ix_in hn 1 (by decide)) ?_
  refine aw_callV (i := 363) (as := [.inl _]) (q := 176) K (dOf ck_mL_law rfl rfl) al_OneBreathLaw_75 rfl rfl ⟨wd_1422, wd_1423⟩ rfl (Nat.le_of_ble_eq_true rfl) ⟨Nat.le_of_ble_eq_true rfl, Nat.le_of_ble_eq_true rfl⟩ hr (Nat.le_refl _) (met_R_at h2) (fun bl2 => ?_)
  refine aw_icmp_eq (i := 364) K (dOf ck_mL_law rfl rfl) (t := 1012) (aJ_of (by decide +kernel)) (fun _ => ?_) (fun z => absurd rfl z)
  have k9 := kk (bl1 ++ bl2)
  rw [← List.append_assoc] at k9
  exact k9
set_option maxHeartbeats 4000000 in
theorem lc_15 {nm : String} {p : Program} {l : Launch} {e : Env} {s : State} {m : MethodId} {args : Array Value} {below : List Frame} {meth : Method} {c : Code} {Q : State → Prop} {D : va_G} {cA : FieldType → ClassId} {ad adV : Nat → Nat} {z0 : Nat} {al : List Nat} {mm : aM} {nc ns : Nat} (K : aK p s m args meth c (mL_law nm) D cA ad adV z0) {n L : Nat} {xs : Nat → Int32} (hX : va_X (ad 21) L xs s s.heap) (hb : ad 21 < z0) (hn : 6 * n + 6 ≤ L) (hL : L ≤ 384) (hr : nc + 0 ≤ 600000 ∧ ns + 0 ≤ 7302250) {r : Int} {mm1 mm2 : aM} (h1 : B_cuts ((xs (6 * n + 1)).toInt) mm = some (r, mm1)) (h2 : R_cuts ((xs (6 * n + 1)).toInt) mm1 = some (r, mm2)) (kk : ∀ bl, AW p l e room_1 s m args below meth c Q D cA ad z0 (mL_law nm) (al ++ bl) 1012 (lawLv n) [] SH mm2 nc ns) : AW p l e room_1 s m args below meth c Q D cA ad z0 (mL_law nm) al 367 (lawLv n) [] SH mm nc ns := by
  unfold lawLv
  refine aw_aload_n (i := 367) K (dOf ck_mL_law rfl rfl) rfl ?_
  refine aw_sload_n (i := 368) K (dOf ck_mL_law rfl rfl) rfl ?_
  refine aw_iload_n (i := 369) K (dOf ck_mL_law rfl rfl) rfl ?_
  refine aw_iconst (i := 370) K (n := 1) (i32 _ rfl) (dOf ck_mL_law rfl rfl) ?_
  refine aw_iadd (i := 371) K (dOf ck_mL_law rfl rfl) ?_
  refine aw_eqi (b := ((6 * n + 1 : Nat) : Int)) (ix_ok hn hL 1 (by decide)) ?_
  refine aw_scrld (i := 372) K hX hb (dOf ck_mL_law rfl rfl) (ix_in hn 1 (by decide)) ?_
  refine aw_callV (i := 373) (as := [.inl _]) (q := 0) K (dOf ck_mL_law rfl rfl) al_OneBreathLaw_76 rfl rfl ⟨wd_731, wd_732⟩ rfl (Nat.le_of_ble_eq_true rfl) ⟨Nat.le_of_ble_eq_true rfl, Nat.le_of_ble_eq_true rfl⟩ hr (Nat.le_refl _) (met_B_cuts h1) (fun bl1 => ?_)
  refine aw_aload_n (i := 374) K (dOf ck_mL_law rfl rfl) rfl ?_
  refine aw_sload_n (i := 375) K (dOf ck_mL_law rfl rfl) rfl ?_
  refine aw_iload_n (i := 376) K (dOf ck_mL_law rfl rfl) rfl ?_
  refine aw_iconst (i := 377) K (n := 1) (i32 _ rfl) (dOf ck_mL_law rfl rfl) ?_
  refine aw_iadd (i := 378) K (dOf ck_mL_law rfl rfl) ?_
  refine aw_eqi (b := ((6 * n + 1 : Nat) : Int)) (ix_ok hn hL 1 (by decide)) ?_
  refine aw_scrld (i := 379) K hX hb (dOf ck_mL_law rfl rfl) (ix_in hn 1 (by decide)) ?_
  refine aw_callV (i := 380) (as := [.inl _]) (q := 176) K (dOf ck_mL_law rfl rfl) al_OneBreathLaw_79 rfl rfl ⟨wd_1426, wd_1427⟩ rfl (Nat.le_of_ble_eq_true rfl) ⟨Nat.le_of_ble_eq_true rfl, Nat.le_of_ble_eq_true rfl⟩ hr (Nat.le_refl _) (met_R_cuts h2) (fun bl2 => ?_)
  refine aw_icmp_eq (i := 381) K (dOf ck_mL_law rfl rfl) (t := 1012) (aJ_of (by decide +kernel)) (fun _ => ?_) (fun z => absurd rfl z)
  have k9 := kk (bl1 ++ bl2)
  rw [← List.append_assoc] at k9
  exact k9
set_option maxHeartbeats 4000000 in
theorem lc_16 {nm : String} {p : Program} {l : Launch} {e : Env} {s : State} {m : MethodId} {args : Array Value} {below : List Frame} {meth : Method} {c : Code} {Q : State → Prop} {D : va_G} {cA : FieldType → ClassId} {ad adV : Nat → Nat} {z0 : Nat} {al : List Nat} {mm : aM} {nc ns : Nat} (K : aK p s m args meth c (mL_law nm) D cA ad adV z0) {n L : Nat} {xs : Nat → Int32} (hX : va_X (ad 21) L xs s s.heap) (hb : ad 21 < z0) (hn : 6 * n + 6 ≤ L) (hL : L ≤ 384) (hr : nc + 0 ≤ 600000 ∧ ns + 0 ≤ 7302250) {r : Int} {mm1 mm2 : aM} (h1 : B_cut ((xs (6 * n + 1)).toInt) ((xs (6 * n + 2)).toInt) mm = some (r, mm1)) (h2 : R_cut ((xs (6 * n + 1)).toInt) ((xs (6 * n + 2)).toInt) mm1 = some (r, mm2)) (kk : ∀ bl, AW p l e room_1 s m args below meth c Q D cA ad z0 (mL_law nm) (al ++ bl) 1012 (lawLv n) [] SH mm2 nc ns) : AW p l e room_1 s m args below meth c Q D cA ad z0 (mL_law nm) al 384 (lawLv n) [] SH mm nc ns := by
  unfold lawLv
  refine aw_aload_n (i := 384) K (dOf ck_mL_law rfl rfl) rfl ?_
  refine aw_sload_n (i := 385) K (dOf ck_mL_law rfl rfl) rfl ?_
  refine aw_iload_n (i := 386) K (dOf ck_mL_law rfl rfl) rfl ?_
  refine aw_iconst (i := 387) K (n := 1) (i32 _ rfl) (dOf ck_mL_law rfl rfl) ?_
  refine aw_iadd (i := 388) K (dOf ck_mL_law rfl rfl) ?_
  refine aw_eqi (b := ((6 * n + 1 : Nat) : Int)) (ix_ok hn hL 1 (by decide)) ?_
  refine aw_scrld (i := 389) K hX hb (dOf ck_mL_law rfl rfl) (ix_in hn 1 (by decide)) ?_
  refine aw_sload_n (i := 390) K (dOf ck_mL_law rfl rfl) rfl ?_
  refine aw_iload_n (i := 391) K (dOf ck_mL_law rfl rfl) rfl ?_
  refine aw_iconst (i := 392) K (n := 2) (i32 _ rfl) (dOf ck_mL_law rfl rfl) ?_
  refine aw_iadd (i := 393) K (dOf ck_mL_law rfl rfl) ?_
  refine aw_eqi (b := ((6 * n + 2 : Nat) : Int)) (ix_ok hn hL 2 (by decide)) ?_
  refine aw_scrld (i := 394) K hX hb (dOf ck_mL_law rfl rfl) (ix_in hn 2 (by decide)) ?_
  refine aw_callV (i := 395) (as := [.inl _, .inl _]) (q := 0) K (dOf ck_mL_law rfl rfl) al_OneBreathLaw_80 rfl rfl ⟨wd_756, wd_757⟩ rfl (Nat.le_of_ble_eq_true rfl) ⟨Nat.le_of_ble_eq_true rfl, Nat.le_of_ble_eq_true rfl⟩ hr (Nat.le_refl _) (met_B_cut h1) (fun bl1 => ?_)
  refine aw_aload_n (i := 396) K (dOf ck_mL_law rfl rfl) rfl ?_
  refine aw_sload_n (i := 397) K (dOf ck_mL_law rfl rfl) rfl ?_
  refine aw_iload_n (i := 398) K (dOf ck_mL_law rfl rfl) rfl ?_
  refine aw_iconst (i := 399) K (n := 1) (i32 _ rfl) (dOf ck_mL_law rfl rfl) ?_
  refine aw_iadd (i := 400) K (dOf ck_mL_law rfl rfl) ?_
  refine aw_eqi (b := ((6 * n + 1 : Nat) : Int)) (ix_ok hn hL 1 (by decide)) ?_
  refine aw_scrld (i := 401) K hX hb (dOf ck_mL_law rfl rfl) (ix_in hn 1 (by decide)) ?_
  refine aw_sload_n (i := 402) K (dOf ck_mL_law rfl rfl) rfl ?_
  refine aw_iload_n (i := 403) K (dOf ck_mL_law rfl rfl) rfl ?_
  refine aw_iconst (i := 404) K (n := 2) (i32 _ rfl) (dOf ck_mL_law rfl rfl) ?_
  refine aw_iadd (i := 405) K (dOf ck_mL_law rfl rfl) ?_
  refine aw_eqi (b := ((6 * n + 2 : Nat) : Int)) (ix_ok hn hL 2 (by decide)) ?_
  refine aw_scrld (i := 406) K hX hb (dOf ck_mL_law rfl rfl) (ix_in hn 2 (by decide)) ?_
  refine aw_callV (i := 407) (as := [.inl _, .inl _]) (q := 176) K (dOf ck_mL_law rfl rfl) al_OneBreathLaw_83 rfl rfl ⟨wd_1443, wd_1444⟩ rfl (Nat.le_of_ble_eq_true rfl) ⟨Nat.le_of_ble_eq_true rfl, Nat.le_of_ble_eq_true rfl⟩ hr (Nat.le_refl _) (met_R_cut h2) (fun bl2 => ?_)
  refine aw_icmp_eq (i := 408) K (dOf ck_mL_law rfl rfl) (t := 1012) (aJ_of (by decide +kernel)) (fun _ => ?_) (fun z => absurd rfl z)
  have k9 := kk (bl1 ++ bl2)
  rw [← List.append_assoc] at k9
  exact k9
set_option maxHeartbeats 4000000 in
theorem lc_17 {nm : String} {p : Program} {l : Launch} {e : Env} {s : State} {m : MethodId} {args : Array Value} {below : List Frame} {meth : Method} {c : Code} {Q : State → Prop} {D : va_G} {cA : FieldType → ClassId} {ad adV : Nat → Nat} {z0 : Nat} {al : List Nat} {mm : aM} {nc ns : Nat} (K : aK p s m args meth c (mL_law nm) D cA ad adV z0) {n L : Nat} {xs : Nat → Int32} (hX : va_X (ad 21) L xs s s.heap) (hb : ad 21 < z0) (hn : 6 * n + 6 ≤ L) (hL : L ≤ 384) (hr : nc + 0 ≤ 600000 ∧ ns + 0 ≤ 7302250) {r : Int} {mm1 mm2 : aM} (h1 : B_mistakes mm = some (r, mm1)) (h2 : R_mistakes mm1 = some (r, mm2)) (kk : ∀ bl, AW p l e room_1 s m args below meth c Q D cA ad z0 (mL_law nm) (al ++ bl) 1012 (lawLv n) [] SH mm2 nc ns) : AW p l e room_1 s m args below meth c Q D cA ad z0 (mL_law nm) al 411 (lawLv n) [] SH mm nc ns := by
  unfold lawLv
  refine aw_aload_n (i := 411) K (dOf ck_mL_law rfl rfl) rfl ?_
  refine aw_callV (i := 412) (as := []) (q := 0) K (dOf ck_mL_law rfl rfl) al_OneBreathLaw_84 rfl rfl ⟨wd_791, wd_792⟩ rfl (Nat.le_of_ble_eq_true rfl) ⟨Nat.le_of_ble_eq_true rfl, Nat.le_of_ble_eq_true rfl⟩ hr (Nat.le_refl _) (met_B_mistakes h1) (fun bl1 => ?_)
  refine aw_aload_n (i := 413) K (dOf ck_mL_law rfl rfl) rfl ?_
  refine aw_callV (i := 414) (as := []) (q := 176) K (dOf ck_mL_law rfl rfl) al_OneBreathLaw_88 rfl rfl ⟨wd_1468, wd_1469⟩ rfl (Nat.le_of_ble_eq_true rfl) ⟨Nat.le_of_ble_eq_true rfl, Nat.le_of_ble_eq_true rfl⟩ hr (Nat.le_refl _) (met_R_mistakes h2) (fun bl2 => ?_)
  refine aw_icmp_eq (i := 415) K (dOf ck_mL_law rfl rfl) (t := 1012) (aJ_of (by decide +kernel)) (fun _ => ?_) (fun z => absurd rfl z)
  have k9 := kk (bl1 ++ bl2)
  rw [← List.append_assoc] at k9
  exact k9
set_option maxHeartbeats 4000000 in
theorem lc_18 {nm : String} {p : Program} {l : Launch} {e : Env} {s : State} {m : MethodId} {args : Array Value} {below : List Frame} {meth : Method} {c : Code} {Q : State → Prop} {D : va_G} {cA : FieldType → ClassId} {ad adV : Nat → Nat} {z0 : Nat} {al : List Nat} {mm : aM} {nc ns : Nat} (K : aK p s m args meth c (mL_law nm) D cA ad adV z0) {n L : Nat} {xs : Nat → Int32} (hX : va_X (ad 21) L xs s s.heap) (hb : ad 21 < z0) (hn : 6 * n + 6 ≤ L) (hL : L ≤ 384) (hr : nc + 0 ≤ 600000 ∧ ns + 0 ≤ 7302250) {r : Int} {mm1 mm2 : aM} (h1 : B_bound ((xs (6 * n + 1)).toInt) mm = some (r, mm1)) (h2 : R_bound ((xs (6 * n + 1)).toInt) mm1 = some (r, mm2)) (kk : ∀ bl, AW p l e room_1 s m args below meth c Q D cA ad z0 (mL_law nm) (al ++ bl) 1012 (lawLv n) [] SH mm2 nc ns) : AW p l e room_1 s m args below meth c Q D cA ad z0 (mL_law nm) al 418 (lawLv n) [] SH mm nc ns := by
  unfold lawLv
  refine aw_aload_n (i := 418) K (dOf ck_mL_law rfl rfl) rfl ?_
  refine aw_sload_n (i := 419) K (dOf ck_mL_law rfl rfl) rfl ?_
  refine aw_iload_n (i := 420) K (dOf ck_mL_law rfl rfl) rfl ?_
  refine aw_iconst (i := 421) K (n := 1) (i32 _ rfl) (dOf ck_mL_law rfl rfl) ?_
  refine aw_iadd (i := 422) K (dOf ck_mL_law rfl rfl) ?_
  refine aw_eqi (b := ((6 * n + 1 : Nat) : Int)) (ix_ok hn hL 1 (by decide)) ?_
  refine aw_scrld (i := 423) K hX hb (dOf ck_mL_law rfl rfl) (ix_in hn 1 (by decide)) ?_
  refine aw_callV (i := 424) (as := [.inl _]) (q := 0) K (dOf ck_mL_law rfl rfl) al_OneBreathLaw_89 rfl rfl ⟨wd_799, wd_800⟩ rfl (Nat.le_of_ble_eq_true rfl) ⟨Nat.le_of_ble_eq_true rfl, Nat.le_of_ble_eq_true rfl⟩ hr (Nat.le_refl _) (met_B_bound h1) (fun bl1 => ?_)
  refine aw_aload_n (i := 425) K (dOf ck_mL_law rfl rfl) rfl ?_
  refine aw_sload_n (i := 426) K (dOf ck_mL_law rfl rfl) rfl ?_
  refine aw_iload_n (i := 427) K (dOf ck_mL_law rfl rfl) rfl ?_
  refine aw_iconst (i := 428) K (n := 1) (i32 _ rfl) (dOf ck_mL_law rfl rfl) ?_
  refine aw_iadd (i := 429) K (dOf ck_mL_law rfl rfl) ?_
  refine aw_eqi (b := ((6 * n + 1 : Nat) : Int)) (ix_ok hn hL 1 (by decide)) ?_
  refine aw_scrld (i := 430) K hX hb (dOf ck_mL_law rfl rfl) (ix_in hn 1 (by decide)) ?_
  refine aw_callV (i := 431) (as := [.inl _]) (q := 176) K (dOf ck_mL_law rfl rfl) al_OneBreathLaw_92 rfl rfl ⟨wd_1472, wd_1473⟩ rfl (Nat.le_of_ble_eq_true rfl) ⟨Nat.le_of_ble_eq_true rfl, Nat.le_of_ble_eq_true rfl⟩ hr (Nat.le_refl _) (met_R_bound h2) (fun bl2 => ?_)
  refine aw_icmp_eq (i := 432) K (dOf ck_mL_law rfl rfl) (t := 1012) (aJ_of (by decide +kernel)) (fun _ => ?_) (fun z => absurd rfl z)
  have k9 := kk (bl1 ++ bl2)
  rw [← List.append_assoc] at k9
  exact k9
set_option maxHeartbeats 4000000 in
theorem lc_19 {nm : String} {p : Program} {l : Launch} {e : Env} {s : State} {m : MethodId} {args : Array Value} {below : List Frame} {meth : Method} {c : Code} {Q : State → Prop} {D : va_G} {cA : FieldType → ClassId} {ad adV : Nat → Nat} {z0 : Nat} {al : List Nat} {mm : aM} {nc ns : Nat} (K : aK p s m args meth c (mL_law nm) D cA ad adV z0) {n L : Nat} {xs : Nat → Int32} (hX : va_X (ad 21) L xs s s.heap) (hb : ad 21 < z0) (hn : 6 * n + 6 ≤ L) (hL : L ≤ 384) (hr : nc + 0 ≤ 600000 ∧ ns + 0 ≤ 7302250) {r : Int} {mm1 mm2 : aM} (h1 : B_unsure ((xs (6 * n + 1)).toInt) mm = some (r, mm1)) (h2 : R_unsure ((xs (6 * n + 1)).toInt) mm1 = some (r, mm2)) (kk : ∀ bl, AW p l e room_1 s m args below meth c Q D cA ad z0 (mL_law nm) (al ++ bl) 1012 (lawLv n) [] SH mm2 nc ns) : AW p l e room_1 s m args below meth c Q D cA ad z0 (mL_law nm) al 435 (lawLv n) [] SH mm nc ns := by
  unfold lawLv
  refine aw_aload_n (i := 435) K (dOf ck_mL_law rfl rfl) rfl ?_
  refine aw_sload_n (i := 436) K (dOf ck_mL_law rfl rfl) rfl ?_
  refine aw_iload_n (i := 437) K (dOf ck_mL_law rfl rfl) rfl ?_
  refine aw_iconst (i := 438) K (n := 1) (i32 _ rfl) (dOf ck_mL_law rfl rfl) ?_
  refine aw_iadd (i := 439) K (dOf ck_mL_law rfl rfl) ?_
  refine aw_eqi (b := ((6 * n + 1 : Nat) : Int)) (ix_ok hn hL 1 (by decide)) ?_
  refine aw_scrld (i := 440) K hX hb (dOf ck_mL_law rfl rfl) (ix_in hn 1 (by decide)) ?_
  refine aw_callV (i := 441) (as := [.inl _]) (q := 0) K (dOf ck_mL_law rfl rfl) al_OneBreathLaw_93 rfl rfl ⟨wd_810, wd_811⟩ rfl (Nat.le_of_ble_eq_true rfl) ⟨Nat.le_of_ble_eq_true rfl, Nat.le_of_ble_eq_true rfl⟩ hr (Nat.le_refl _) (met_B_unsure h1) (fun bl1 => ?_)
  refine aw_aload_n (i := 442) K (dOf ck_mL_law rfl rfl) rfl ?_
  refine aw_sload_n (i := 443) K (dOf ck_mL_law rfl rfl) rfl ?_
  refine aw_iload_n (i := 444) K (dOf ck_mL_law rfl rfl) rfl ?_
  refine aw_iconst (i := 445) K (n := 1) (i32 _ rfl) (dOf ck_mL_law rfl rfl) ?_
  refine aw_iadd (i := 446) K (dOf ck_mL_law rfl rfl) ?_
  refine aw_eqi (b := ((6 * n + 1 : Nat) : Int)) (ix_ok hn hL 1 (by decide)) ?_
  refine aw_scrld (i := 447) K hX hb (dOf ck_mL_law rfl rfl) (ix_in hn 1 (by decide)) ?_
  refine aw_callV (i := 448) (as := [.inl _]) (q := 176) K (dOf ck_mL_law rfl rfl) al_OneBreathLaw_96 rfl rfl ⟨wd_1476, wd_1477⟩ rfl (Nat.le_of_ble_eq_true rfl) ⟨Nat.le_of_ble_eq_true rfl, Nat.le_of_ble_eq_true rfl⟩ hr (Nat.le_refl _) (met_R_unsure h2) (fun bl2 => ?_)
  refine aw_icmp_eq (i := 449) K (dOf ck_mL_law rfl rfl) (t := 1012) (aJ_of (by decide +kernel)) (fun _ => ?_) (fun z => absurd rfl z)
  have k9 := kk (bl1 ++ bl2)
  rw [← List.append_assoc] at k9
  exact k9
set_option maxHeartbeats 4000000 in
theorem lc_20 {nm : String} {p : Program} {l : Launch} {e : Env} {s : State} {m : MethodId} {args : Array Value} {below : List Frame} {meth : Method} {c : Code} {Q : State → Prop} {D : va_G} {cA : FieldType → ClassId} {ad adV : Nat → Nat} {z0 : Nat} {al : List Nat} {mm : aM} {nc ns : Nat} (K : aK p s m args meth c (mL_law nm) D cA ad adV z0) {n L : Nat} {xs : Nat → Int32} (hX : va_X (ad 21) L xs s s.heap) (hb : ad 21 < z0) (hn : 6 * n + 6 ≤ L) (hL : L ≤ 384) (hr : nc + 0 ≤ 600000 ∧ ns + 0 ≤ 7302250) {r : Int} {mm1 mm2 : aM} (h1 : B_unsureAt ((xs (6 * n + 1)).toInt) mm = some (r, mm1)) (h2 : R_unsureAt ((xs (6 * n + 1)).toInt) mm1 = some (r, mm2)) (kk : ∀ bl, AW p l e room_1 s m args below meth c Q D cA ad z0 (mL_law nm) (al ++ bl) 1012 (lawLv n) [] SH mm2 nc ns) : AW p l e room_1 s m args below meth c Q D cA ad z0 (mL_law nm) al 452 (lawLv n) [] SH mm nc ns := by
  unfold lawLv
  refine aw_aload_n (i := 452) K (dOf ck_mL_law rfl rfl) rfl ?_
  refine aw_sload_n (i := 453) K (dOf ck_mL_law rfl rfl) rfl ?_
  refine aw_iload_n (i := 454) K (dOf ck_mL_law rfl rfl) rfl ?_
  refine aw_iconst (i := 455) K (n := 1) (i32 _ rfl) (dOf ck_mL_law rfl rfl) ?_
  refine aw_iadd (i := 456) K (dOf ck_mL_law rfl rfl) ?_
  refine aw_eqi (b := ((6 * n + 1 : Nat) : Int)) (ix_ok hn hL 1 (by decide)) ?_
  refine aw_scrld (i := 457) K hX hb (dOf ck_mL_law rfl rfl) (ix_in hn 1 (by decide)) ?_
  refine aw_callV (i := 458) (as := [.inl _]) (q := 0) K (dOf ck_mL_law rfl rfl) al_OneBreathLaw_97 rfl rfl ⟨wd_896, wd_897⟩ rfl (Nat.le_of_ble_eq_true rfl) ⟨Nat.le_of_ble_eq_true rfl, Nat.le_of_ble_eq_true rfl⟩ hr (Nat.le_refl _) (met_B_unsureAt h1) (fun bl1 => ?_)
  refine aw_aload_n (i := 459) K (dOf ck_mL_law rfl rfl) rfl ?_
  refine aw_sload_n (i := 460) K (dOf ck_mL_law rfl rfl) rfl ?_
  refine aw_iload_n (i := 461) K (dOf ck_mL_law rfl rfl) rfl ?_
  refine aw_iconst (i := 462) K (n := 1) (i32 _ rfl) (dOf ck_mL_law rfl rfl) ?_
  refine aw_iadd (i := 463) K (dOf ck_mL_law rfl rfl) ?_
  refine aw_eqi (b := ((6 * n + 1 : Nat) : Int)) (ix_ok hn hL 1 (by decide)) ?_
  refine aw_scrld (i := 464) K hX hb (dOf ck_mL_law rfl rfl) (ix_in hn 1 (by decide)) ?_
  refine aw_callV (i := 465) (as := [.inl _]) (q := 176) K (dOf ck_mL_law rfl rfl) al_OneBreathLaw_100 rfl rfl ⟨wd_1522, wd_1523⟩ rfl (Nat.le_of_ble_eq_true rfl) ⟨Nat.le_of_ble_eq_true rfl, Nat.le_of_ble_eq_true rfl⟩ hr (Nat.le_refl _) (met_R_unsureAt h2) (fun bl2 => ?_)
  refine aw_icmp_eq (i := 466) K (dOf ck_mL_law rfl rfl) (t := 1012) (aJ_of (by decide +kernel)) (fun _ => ?_) (fun z => absurd rfl z)
  have k9 := kk (bl1 ++ bl2)
  rw [← List.append_assoc] at k9
  exact k9
set_option maxHeartbeats 4000000 in
theorem lc_21 {nm : String} {p : Program} {l : Launch} {e : Env} {s : State} {m : MethodId} {args : Array Value} {below : List Frame} {meth : Method} {c : Code} {Q : State → Prop} {D : va_G} {cA : FieldType → ClassId} {ad adV : Nat → Nat} {z0 : Nat} {al : List Nat} {mm : aM} {nc ns : Nat} (K : aK p s m args meth c (mL_law nm) D cA ad adV z0) {n L : Nat} {xs : Nat → Int32} (hX : va_X (ad 21) L xs s s.heap) (hb : ad 21 < z0) (hn : 6 * n + 6 ≤ L) (hL : L ≤ 384) (hr : nc + 0 ≤ 600000 ∧ ns + 0 ≤ 7302250) {r : Int} {mm1 mm2 : aM} (h1 : B_bears mm = some (r, mm1)) (h2 : R_bears mm1 = some (r, mm2)) (kk : ∀ bl, AW p l e room_1 s m args below meth c Q D cA ad z0 (mL_law nm) (al ++ bl) 1012 (lawLv n) [] SH mm2 nc ns) : AW p l e room_1 s m args below meth c Q D cA ad z0 (mL_law nm) al 469 (lawLv n) [] SH mm nc ns := by
  unfold lawLv
  refine aw_aload_n (i := 469) K (dOf ck_mL_law rfl rfl) rfl ?_
  refine aw_callV (i := 470) (as := []) (q := 0) K (dOf ck_mL_law rfl rfl) al_OneBreathLaw_101 rfl rfl ⟨wd_942, wd_943⟩ rfl (Nat.le_of_ble_eq_true rfl) ⟨Nat.le_of_ble_eq_true rfl, Nat.le_of_ble_eq_true rfl⟩ hr (Nat.le_refl _) (met_B_bears h1) (fun bl1 => ?_)
  refine aw_aload_n (i := 471) K (dOf ck_mL_law rfl rfl) rfl ?_
  refine aw_callV (i := 472) (as := []) (q := 176) K (dOf ck_mL_law rfl rfl) al_OneBreathLaw_104 rfl rfl ⟨wd_1529, wd_1530⟩ rfl (Nat.le_of_ble_eq_true rfl) ⟨Nat.le_of_ble_eq_true rfl, Nat.le_of_ble_eq_true rfl⟩ hr (Nat.le_refl _) (met_R_bears h2) (fun bl2 => ?_)
  refine aw_icmp_eq (i := 473) K (dOf ck_mL_law rfl rfl) (t := 1012) (aJ_of (by decide +kernel)) (fun _ => ?_) (fun z => absurd rfl z)
  have k9 := kk (bl1 ++ bl2)
  rw [← List.append_assoc] at k9
  exact k9
set_option maxHeartbeats 4000000 in
theorem lc_22 {nm : String} {p : Program} {l : Launch} {e : Env} {s : State} {m : MethodId} {args : Array Value} {below : List Frame} {meth : Method} {c : Code} {Q : State → Prop} {D : va_G} {cA : FieldType → ClassId} {ad adV : Nat → Nat} {z0 : Nat} {al : List Nat} {mm : aM} {nc ns : Nat} (K : aK p s m args meth c (mL_law nm) D cA ad adV z0) {n L : Nat} {xs : Nat → Int32} (hX : va_X (ad 21) L xs s s.heap) (hb : ad 21 < z0) (hn : 6 * n + 6 ≤ L) (hL : L ≤ 384) (hr : nc + 0 ≤ 600000 ∧ ns + 0 ≤ 7302250) {r : Int} {mm1 mm2 : aM} (h1 : B_added ((xs (6 * n + 1)).toInt) ((xs (6 * n + 2)).toInt) mm = some (r, mm1)) (h2 : R_added ((xs (6 * n + 1)).toInt) ((xs (6 * n + 2)).toInt) mm1 = some (r, mm2)) (kk : ∀ bl, AW p l e room_1 s m args below meth c Q D cA ad z0 (mL_law nm) (al ++ bl) 1012 (lawLv n) [] SH mm2 nc ns) : AW p l e room_1 s m args below meth c Q D cA ad z0 (mL_law nm) al 476 (lawLv n) [] SH mm nc ns := by
  unfold lawLv
  refine aw_aload_n (i := 476) K (dOf ck_mL_law rfl rfl) rfl ?_
  refine aw_sload_n (i := 477) K (dOf ck_mL_law rfl rfl) rfl ?_
  refine aw_iload_n (i := 478) K (dOf ck_mL_law rfl rfl) rfl ?_
  refine aw_iconst (i := 479) K (n := 1) (i32 _ rfl) (dOf ck_mL_law rfl rfl) ?_
  refine aw_iadd (i := 480) K (dOf ck_mL_law rfl rfl) ?_
  refine aw_eqi (b := ((6 * n + 1 : Nat) : Int)) (ix_ok hn hL 1 (by decide)) ?_
  refine aw_scrld (i := 481) K hX hb (dOf ck_mL_law rfl rfl) (ix_in hn 1 (by decide)) ?_
  refine aw_sload_n (i := 482) K (dOf ck_mL_law rfl rfl) rfl ?_
  refine aw_iload_n (i := 483) K (dOf ck_mL_law rfl rfl) rfl ?_
  refine aw_iconst (i := 484) K (n := 2) (i32 _ rfl) (dOf ck_mL_law rfl rfl) ?_
  refine aw_iadd (i := 485) K (dOf ck_mL_law rfl rfl) ?_
  refine aw_eqi (b := ((6 * n + 2 : Nat) : Int)) (ix_ok hn hL 2 (by decide)) ?_
  refine aw_scrld (i := 486) K hX hb (dOf ck_mL_law rfl rfl) (ix_in hn 2 (by decide)) ?_
  refine aw_callV (i := 487) (as := [.inl _, .inl _]) (q := 0) K (dOf ck_mL_law rfl rfl) al_OneBreathLaw_105 rfl rfl ⟨wd_946, wd_947⟩ rfl (Nat.le_of_ble_eq_true rfl) ⟨Nat.le_of_ble_eq_true rfl, Nat.le_of_ble_eq_true rfl⟩ hr (Nat.le_refl _) (met_B_added h1) (fun bl1 => ?_)
  refine aw_aload_n (i := 488) K (dOf ck_mL_law rfl rfl) rfl ?_
  refine aw_sload_n (i := 489) K (dOf ck_mL_law rfl rfl) rfl ?_
  refine aw_iload_n (i := 490) K (dOf ck_mL_law rfl rfl) rfl ?_
  refine aw_iconst (i := 491) K (n := 1) (i32 _ rfl) (dOf ck_mL_law rfl rfl) ?_
  refine aw_iadd (i := 492) K (dOf ck_mL_law rfl rfl) ?_
  refine aw_eqi (b := ((6 * n + 1 : Nat) : Int)) (ix_ok hn hL 1 (by decide)) ?_
  refine aw_scrld (i := 493) K hX hb (dOf ck_mL_law rfl rfl) (ix_in hn 1 (by decide)) ?_
  refine aw_sload_n (i := 494) K (dOf ck_mL_law rfl rfl) rfl ?_
  refine aw_iload_n (i := 495) K (dOf ck_mL_law rfl rfl) rfl ?_
  refine aw_iconst (i := 496) K (n := 2) (i32 _ rfl) (dOf ck_mL_law rfl rfl) ?_
  refine aw_iadd (i := 497) K (dOf ck_mL_law rfl rfl) ?_
  refine aw_eqi (b := ((6 * n + 2 : Nat) : Int)) (ix_ok hn hL 2 (by decide)) ?_
  refine aw_scrld (i := 498) K hX hb (dOf ck_mL_law rfl rfl) (ix_in hn 2 (by decide)) ?_
  refine aw_callV (i := 499) (as := [.inl _, .inl _]) (q := 176) K (dOf ck_mL_law rfl rfl) al_OneBreathLaw_108 rfl rfl ⟨wd_1536, wd_1537⟩ rfl (Nat.le_of_ble_eq_true rfl) ⟨Nat.le_of_ble_eq_true rfl, Nat.le_of_ble_eq_true rfl⟩ hr (Nat.le_refl _) (met_R_added h2) (fun bl2 => ?_)
  refine aw_icmp_eq (i := 500) K (dOf ck_mL_law rfl rfl) (t := 1012) (aJ_of (by decide +kernel)) (fun _ => ?_) (fun z => absurd rfl z)
  have k9 := kk (bl1 ++ bl2)
  rw [← List.append_assoc] at k9
  exact k9
set_option maxHeartbeats 4000000 in
theorem lc_23 {nm : String} {p : Program} {l : Launch} {e : Env} {s : State} {m : MethodId} {args : Array Value} {below : List Frame} {meth : Method} {c : Code} {Q : State → Prop} {D : va_G} {cA : FieldType → ClassId} {ad adV : Nat → Nat} {z0 : Nat} {al : List Nat} {mm : aM} {nc ns : Nat} (K : aK p s m args meth c (mL_law nm) D cA ad adV z0) {n L : Nat} {xs : Nat → Int32} (hX : va_X (ad 21) L xs s s.heap) (hb : ad 21 < z0) (hn : 6 * n + 6 ≤ L) (hL : L ≤ 384) (hr : nc + 0 ≤ 600000 ∧ ns + 0 ≤ 7302250) {r : Int} {mm1 mm2 : aM} (h1 : B_adds ((xs (6 * n + 1)).toInt) ((xs (6 * n + 2)).toInt) ((xs (6 * n + 3)).toInt) mm = some (r, mm1)) (h2 : R_adds ((xs (6 * n + 1)).toInt) ((xs (6 * n + 2)).toInt) ((xs (6 * n + 3)).toInt) mm1 = some (r, mm2)) (kk : ∀ bl, AW p l e room_1 s m args below meth c Q D cA ad z0 (mL_law nm) (al ++ bl) 1012 (lawLv n) [] SH mm2 nc ns) : AW p l e room_1 s m args below meth c Q D cA ad z0 (mL_law nm) al 503 (lawLv n) [] SH mm nc ns := by
  unfold lawLv
  refine aw_aload_n (i := 503) K (dOf ck_mL_law rfl rfl) rfl ?_
  refine aw_sload_n (i := 504) K (dOf ck_mL_law rfl rfl) rfl ?_
  refine aw_iload_n (i := 505) K (dOf ck_mL_law rfl rfl) rfl ?_
  refine aw_iconst (i := 506) K (n := 1) (i32 _ rfl) (dOf ck_mL_law rfl rfl) ?_
  refine aw_iadd (i := 507) K (dOf ck_mL_law rfl rfl) ?_
  refine aw_eqi (b := ((6 * n + 1 : Nat) : Int)) (ix_ok hn hL 1 (by decide)) ?_
  refine aw_scrld (i := 508) K hX hb (dOf ck_mL_law rfl rfl) (ix_in hn 1 (by decide)) ?_
  refine aw_sload_n (i := 509) K (dOf ck_mL_law rfl rfl) rfl ?_
  refine aw_iload_n (i := 510) K (dOf ck_mL_law rfl rfl) rfl ?_
  refine aw_iconst (i := 511) K (n := 2) (i32 _ rfl) (dOf ck_mL_law rfl rfl) ?_
  refine aw_iadd (i := 512) K (dOf ck_mL_law rfl rfl) ?_
  refine aw_eqi (b := ((6 * n + 2 : Nat) : Int)) (ix_ok hn hL 2 (by decide)) ?_
  refine aw_scrld (i := 513) K hX hb (dOf ck_mL_law rfl rfl) (ix_in hn 2 (by decide)) ?_
  refine aw_sload_n (i := 514) K (dOf ck_mL_law rfl rfl) rfl ?_
  refine aw_iload_n (i := 515) K (dOf ck_mL_law rfl rfl) rfl ?_
  refine aw_iconst (i := 516) K (n := 3) (i32 _ rfl) (dOf ck_mL_law rfl rfl) ?_
  refine aw_iadd (i := 517) K (dOf ck_mL_law rfl rfl) ?_
  refine aw_eqi (b := ((6 * n + 3 : Nat) : Int)) (ix_ok hn hL 3 (by decide)) ?_
  refine aw_scrld (i := 518) K hX hb (dOf ck_mL_law rfl rfl) (ix_in hn 3 (by decide)) ?_
  refine aw_callV (i := 519) (as := [.inl _, .inl _, .inl _]) (q := 0) K (dOf ck_mL_law rfl rfl) al_OneBreathLaw_109 rfl rfl ⟨wd_977, wd_978⟩ rfl (Nat.le_of_ble_eq_true rfl) ⟨Nat.le_of_ble_eq_true rfl, Nat.le_of_ble_eq_true rfl⟩ hr (Nat.le_refl _) (met_B_adds h1) (fun bl1 => ?_)
  refine aw_aload_n (i := 520) K (dOf ck_mL_law rfl rfl) rfl ?_
  refine aw_sload_n (i := 521) K (dOf ck_mL_law rfl rfl) rfl ?_
  refine aw_iload_n (i := 522) K (dOf ck_mL_law rfl rfl) rfl ?_
  refine aw_iconst (i := 523) K (n := 1) (i32 _ rfl) (dOf ck_mL_law rfl rfl) ?_
  refine aw_iadd (i := 524) K (dOf ck_mL_law rfl rfl) ?_
  refine aw_eqi (b := ((6 * n + 1 : Nat) : Int)) (ix_ok hn hL 1 (by decide)) ?_
  refine aw_scrld (i := 525) K hX hb (dOf ck_mL_law rfl rfl) (ix_in hn 1 (by decide)) ?_
  refine aw_sload_n (i := 526) K (dOf ck_mL_law rfl rfl) rfl ?_
  refine aw_iload_n (i := 527) K (dOf ck_mL_law rfl rfl) rfl ?_
  refine aw_iconst (i := 528) K (n := 2) (i32 _ rfl) (dOf ck_mL_law rfl rfl) ?_
  refine aw_iadd (i := 529) K (dOf ck_mL_law rfl rfl) ?_
  refine aw_eqi (b := ((6 * n + 2 : Nat) : Int)) (ix_ok hn hL 2 (by decide)) ?_
  refine aw_scrld (i := 530) K hX hb (dOf ck_mL_law rfl rfl) (ix_in hn 2 (by decide)) ?_
  refine aw_sload_n (i := 531) K (dOf ck_mL_law rfl rfl) rfl ?_
  refine aw_iload_n (i := 532) K (dOf ck_mL_law rfl rfl) rfl ?_
  refine aw_iconst (i := 533) K (n := 3) (i32 _ rfl) (dOf ck_mL_law rfl rfl) ?_
  refine aw_iadd (i := 534) K (dOf ck_mL_law rfl rfl) ?_
  refine aw_eqi (b := ((6 * n + 3 : Nat) : Int)) (ix_ok hn hL 3 (by decide)) ?_
  refine aw_scrld (i := 535) K hX hb (dOf ck_mL_law rfl rfl) (ix_in hn 3 (by decide)) ?_
  refine aw_callV (i := 536) (as := [.inl _, .inl _, .inl _]) (q := 176) K (dOf ck_mL_law rfl rfl) al_OneBreathLaw_113 rfl rfl ⟨wd_1556, wd_1557⟩ rfl (Nat.le_of_ble_eq_true rfl) ⟨Nat.le_of_ble_eq_true rfl, Nat.le_of_ble_eq_true rfl⟩ hr (Nat.le_refl _) (met_R_adds h2) (fun bl2 => ?_)
  refine aw_icmp_eq (i := 537) K (dOf ck_mL_law rfl rfl) (t := 1012) (aJ_of (by decide +kernel)) (fun _ => ?_) (fun z => absurd rfl z)
  have k9 := kk (bl1 ++ bl2)
  rw [← List.append_assoc] at k9
  exact k9
set_option maxHeartbeats 4000000 in
theorem lc_24 {nm : String} {p : Program} {l : Launch} {e : Env} {s : State} {m : MethodId} {args : Array Value} {below : List Frame} {meth : Method} {c : Code} {Q : State → Prop} {D : va_G} {cA : FieldType → ClassId} {ad adV : Nat → Nat} {z0 : Nat} {al : List Nat} {mm : aM} {nc ns : Nat} (K : aK p s m args meth c (mL_law nm) D cA ad adV z0) {n L : Nat} {xs : Nat → Int32} (hX : va_X (ad 21) L xs s s.heap) (hb : ad 21 < z0) (hn : 6 * n + 6 ≤ L) (hL : L ≤ 384) (hr : nc + 0 ≤ 600000 ∧ ns + 0 ≤ 7302250) {r : Int} {mm1 mm2 : aM} (h1 : B_mended ((xs (6 * n + 1)).toInt) mm = some (r, mm1)) (h2 : R_mended ((xs (6 * n + 1)).toInt) mm1 = some (r, mm2)) (kk : ∀ bl, AW p l e room_1 s m args below meth c Q D cA ad z0 (mL_law nm) (al ++ bl) 1012 (lawLv n) [] SH mm2 nc ns) : AW p l e room_1 s m args below meth c Q D cA ad z0 (mL_law nm) al 540 (lawLv n) [] SH mm nc ns := by
  unfold lawLv
  refine aw_aload_n (i := 540) K (dOf ck_mL_law rfl rfl) rfl ?_
  refine aw_sload_n (i := 541) K (dOf ck_mL_law rfl rfl) rfl ?_
  refine aw_iload_n (i := 542) K (dOf ck_mL_law rfl rfl) rfl ?_
  refine aw_iconst (i := 543) K (n := 1) (i32 _ rfl) (dOf ck_mL_law rfl rfl) ?_
  refine aw_iadd (i := 544) K (dOf ck_mL_law rfl rfl) ?_
  refine aw_eqi (b := ((6 * n + 1 : Nat) : Int)) (ix_ok hn hL 1 (by decide)) ?_
  refine aw_scrld (i := 545) K hX hb (dOf ck_mL_law rfl rfl) (ix_in hn 1 (by decide)) ?_
  refine aw_callV (i := 546) (as := [.inl _]) (q := 0) K (dOf ck_mL_law rfl rfl) al_OneBreathLaw_114 rfl rfl ⟨wd_985, wd_986⟩ rfl (Nat.le_of_ble_eq_true rfl) ⟨Nat.le_of_ble_eq_true rfl, Nat.le_of_ble_eq_true rfl⟩ hr (Nat.le_refl _) (met_B_mended h1) (fun bl1 => ?_)
  refine aw_aload_n (i := 547) K (dOf ck_mL_law rfl rfl) rfl ?_
  refine aw_sload_n (i := 548) K (dOf ck_mL_law rfl rfl) rfl ?_
  refine aw_iload_n (i := 549) K (dOf ck_mL_law rfl rfl) rfl ?_
  refine aw_iconst (i := 550) K (n := 1) (i32 _ rfl) (dOf ck_mL_law rfl rfl) ?_
  refine aw_iadd (i := 551) K (dOf ck_mL_law rfl rfl) ?_
  refine aw_eqi (b := ((6 * n + 1 : Nat) : Int)) (ix_ok hn hL 1 (by decide)) ?_
  refine aw_scrld (i := 552) K hX hb (dOf ck_mL_law rfl rfl) (ix_in hn 1 (by decide)) ?_
  refine aw_callV (i := 553) (as := [.inl _]) (q := 176) K (dOf ck_mL_law rfl rfl) al_OneBreathLaw_117 rfl rfl ⟨wd_1561, wd_1562⟩ rfl (Nat.le_of_ble_eq_true rfl) ⟨Nat.le_of_ble_eq_true rfl, Nat.le_of_ble_eq_true rfl⟩ hr (Nat.le_refl _) (met_R_mended h2) (fun bl2 => ?_)
  refine aw_icmp_eq (i := 554) K (dOf ck_mL_law rfl rfl) (t := 1012) (aJ_of (by decide +kernel)) (fun _ => ?_) (fun z => absurd rfl z)
  have k9 := kk (bl1 ++ bl2)
  rw [← List.append_assoc] at k9
  exact k9
set_option maxHeartbeats 4000000 in
theorem lc_25 {nm : String} {p : Program} {l : Launch} {e : Env} {s : State} {m : MethodId} {args : Array Value} {below : List Frame} {meth : Method} {c : Code} {Q : State → Prop} {D : va_G} {cA : FieldType → ClassId} {ad adV : Nat → Nat} {z0 : Nat} {al : List Nat} {mm : aM} {nc ns : Nat} (K : aK p s m args meth c (mL_law nm) D cA ad adV z0) {n L : Nat} {xs : Nat → Int32} (hX : va_X (ad 21) L xs s s.heap) (hb : ad 21 < z0) (hn : 6 * n + 6 ≤ L) (hL : L ≤ 384) (hr : nc + 0 ≤ 600000 ∧ ns + 0 ≤ 7302250) {r : Int} {mm1 mm2 : aM} (h1 : B_changed ((xs (6 * n + 1)).toInt) mm = some (r, mm1)) (h2 : R_changed ((xs (6 * n + 1)).toInt) mm1 = some (r, mm2)) (kk : ∀ bl, AW p l e room_1 s m args below meth c Q D cA ad z0 (mL_law nm) (al ++ bl) 1012 (lawLv n) [] SH mm2 nc ns) : AW p l e room_1 s m args below meth c Q D cA ad z0 (mL_law nm) al 557 (lawLv n) [] SH mm nc ns := by
  unfold lawLv
  refine aw_aload_n (i := 557) K (dOf ck_mL_law rfl rfl) rfl ?_
  refine aw_sload_n (i := 558) K (dOf ck_mL_law rfl rfl) rfl ?_
  refine aw_iload_n (i := 559) K (dOf ck_mL_law rfl rfl) rfl ?_
  refine aw_iconst (i := 560) K (n := 1) (i32 _ rfl) (dOf ck_mL_law rfl rfl) ?_
  refine aw_iadd (i := 561) K (dOf ck_mL_law rfl rfl) ?_
  refine aw_eqi (b := ((6 * n + 1 : Nat) : Int)) (ix_ok hn hL 1 (by decide)) ?_
  refine aw_scrld (i := 562) K hX hb (dOf ck_mL_law rfl rfl) (ix_in hn 1 (by decide)) ?_
  refine aw_callV (i := 563) (as := [.inl _]) (q := 0) K (dOf ck_mL_law rfl rfl) al_OneBreathLaw_118 rfl rfl ⟨wd_1004, wd_1005⟩ rfl (Nat.le_of_ble_eq_true rfl) ⟨Nat.le_of_ble_eq_true rfl, Nat.le_of_ble_eq_true rfl⟩ hr (Nat.le_refl _) (met_B_changed h1) (fun bl1 => ?_)
  refine aw_aload_n (i := 564) K (dOf ck_mL_law rfl rfl) rfl ?_
  refine aw_sload_n (i := 565) K (dOf ck_mL_law rfl rfl) rfl ?_
  refine aw_iload_n (i := 566) K (dOf ck_mL_law rfl rfl) rfl ?_
  refine aw_iconst (i := 567) K (n := 1) (i32 _ rfl) (dOf ck_mL_law rfl rfl) ?_
  refine aw_iadd (i := 568) K (dOf ck_mL_law rfl rfl) ?_
  refine aw_eqi (b := ((6 * n + 1 : Nat) : Int)) (ix_ok hn hL 1 (by decide)) ?_
  refine aw_scrld (i := 569) K hX hb (dOf ck_mL_law rfl rfl) (ix_in hn 1 (by decide)) ?_
  refine aw_callV (i := 570) (as := [.inl _]) (q := 176) K (dOf ck_mL_law rfl rfl) al_OneBreathLaw_121 rfl rfl ⟨wd_1568, wd_1569⟩ rfl (Nat.le_of_ble_eq_true rfl) ⟨Nat.le_of_ble_eq_true rfl, Nat.le_of_ble_eq_true rfl⟩ hr (Nat.le_refl _) (met_R_changed h2) (fun bl2 => ?_)
  refine aw_icmp_eq (i := 571) K (dOf ck_mL_law rfl rfl) (t := 1012) (aJ_of (by decide +kernel)) (fun _ => ?_) (fun z => absurd rfl z)
  have k9 := kk (bl1 ++ bl2)
  rw [← List.append_assoc] at k9
  exact k9
set_option maxHeartbeats 4000000 in
theorem lc_26 {nm : String} {p : Program} {l : Launch} {e : Env} {s : State} {m : MethodId} {args : Array Value} {below : List Frame} {meth : Method} {c : Code} {Q : State → Prop} {D : va_G} {cA : FieldType → ClassId} {ad adV : Nat → Nat} {z0 : Nat} {al : List Nat} {mm : aM} {nc ns : Nat} (K : aK p s m args meth c (mL_law nm) D cA ad adV z0) {n L : Nat} {xs : Nat → Int32} (hX : va_X (ad 21) L xs s s.heap) (hb : ad 21 < z0) (hn : 6 * n + 6 ≤ L) (hL : L ≤ 384) (hr : nc + 0 ≤ 600000 ∧ ns + 0 ≤ 7302250) {r : Int} {mm1 mm2 : aM} (h1 : B_paused ((xs (6 * n + 1)).toInt) mm = some (r, mm1)) (h2 : R_paused ((xs (6 * n + 1)).toInt) mm1 = some (r, mm2)) (kk : ∀ bl, AW p l e room_1 s m args below meth c Q D cA ad z0 (mL_law nm) (al ++ bl) 1012 (lawLv n) [] SH mm2 nc ns) : AW p l e room_1 s m args below meth c Q D cA ad z0 (mL_law nm) al 574 (lawLv n) [] SH mm nc ns := by
  unfold lawLv
  refine aw_aload_n (i := 574) K (dOf ck_mL_law rfl rfl) rfl ?_
  refine aw_sload_n (i := 575) K (dOf ck_mL_law rfl rfl) rfl ?_
  refine aw_iload_n (i := 576) K (dOf ck_mL_law rfl rfl) rfl ?_
  refine aw_iconst (i := 577) K (n := 1) (i32 _ rfl) (dOf ck_mL_law rfl rfl) ?_
  refine aw_iadd (i := 578) K (dOf ck_mL_law rfl rfl) ?_
  refine aw_eqi (b := ((6 * n + 1 : Nat) : Int)) (ix_ok hn hL 1 (by decide)) ?_
  refine aw_scrld (i := 579) K hX hb (dOf ck_mL_law rfl rfl) (ix_in hn 1 (by decide)) ?_
  refine aw_callV (i := 580) (as := [.inl _]) (q := 0) K (dOf ck_mL_law rfl rfl) al_OneBreathLaw_122 rfl rfl ⟨wd_1020, wd_1021⟩ rfl (Nat.le_of_ble_eq_true rfl) ⟨Nat.le_of_ble_eq_true rfl, Nat.le_of_ble_eq_true rfl⟩ hr (Nat.le_refl _) (met_B_paused h1) (fun bl1 => ?_)
  refine aw_aload_n (i := 581) K (dOf ck_mL_law rfl rfl) rfl ?_
  refine aw_sload_n (i := 582) K (dOf ck_mL_law rfl rfl) rfl ?_
  refine aw_iload_n (i := 583) K (dOf ck_mL_law rfl rfl) rfl ?_
  refine aw_iconst (i := 584) K (n := 1) (i32 _ rfl) (dOf ck_mL_law rfl rfl) ?_
  refine aw_iadd (i := 585) K (dOf ck_mL_law rfl rfl) ?_
  refine aw_eqi (b := ((6 * n + 1 : Nat) : Int)) (ix_ok hn hL 1 (by decide)) ?_
  refine aw_scrld (i := 586) K hX hb (dOf ck_mL_law rfl rfl) (ix_in hn 1 (by decide)) ?_
  refine aw_callV (i := 587) (as := [.inl _]) (q := 176) K (dOf ck_mL_law rfl rfl) al_OneBreathLaw_125 rfl rfl ⟨wd_1572, wd_1573⟩ rfl (Nat.le_of_ble_eq_true rfl) ⟨Nat.le_of_ble_eq_true rfl, Nat.le_of_ble_eq_true rfl⟩ hr (Nat.le_refl _) (met_R_paused h2) (fun bl2 => ?_)
  refine aw_icmp_eq (i := 588) K (dOf ck_mL_law rfl rfl) (t := 1012) (aJ_of (by decide +kernel)) (fun _ => ?_) (fun z => absurd rfl z)
  have k9 := kk (bl1 ++ bl2)
  rw [← List.append_assoc] at k9
  exact k9
set_option maxHeartbeats 4000000 in
theorem lc_27 {nm : String} {p : Program} {l : Launch} {e : Env} {s : State} {m : MethodId} {args : Array Value} {below : List Frame} {meth : Method} {c : Code} {Q : State → Prop} {D : va_G} {cA : FieldType → ClassId} {ad adV : Nat → Nat} {z0 : Nat} {al : List Nat} {mm : aM} {nc ns : Nat} (K : aK p s m args meth c (mL_law nm) D cA ad adV z0) {n L : Nat} {xs : Nat → Int32} (hX : va_X (ad 21) L xs s s.heap) (hb : ad 21 < z0) (hn : 6 * n + 6 ≤ L) (hL : L ≤ 384) (hr : nc + 0 ≤ 600000 ∧ ns + 0 ≤ 7302250) {r : Int} {mm2 : aM} (h1 : B_begun ((xs (6 * n + 1)).toInt) mm = some r) (h2 : R_begun ((xs (6 * n + 1)).toInt) mm = some (r, mm2)) (kk : ∀ bl, AW p l e room_1 s m args below meth c Q D cA ad z0 (mL_law nm) (al ++ bl) 1012 (lawLv n) [] SH mm2 nc ns) : AW p l e room_1 s m args below meth c Q D cA ad z0 (mL_law nm) al 591 (lawLv n) [] SH mm nc ns := by
  unfold lawLv
  refine aw_aload_n (i := 591) K (dOf ck_mL_law rfl rfl) rfl ?_
  refine aw_sload_n (i := 592) K (dOf ck_mL_law rfl rfl) rfl ?_
  refine aw_iload_n (i := 593) K (dOf ck_mL_law rfl rfl) rfl ?_
  refine aw_iconst (i := 594) K (n := 1) (i32 _ rfl) (dOf ck_mL_law rfl rfl) ?_
  refine aw_iadd (i := 595) K (dOf ck_mL_law rfl rfl) ?_
  refine aw_eqi (b := ((6 * n + 1 : Nat) : Int)) (ix_ok hn hL 1 (by decide)) ?_
  refine aw_scrld (i := 596) K hX hb (dOf ck_mL_law rfl rfl) (ix_in hn 1 (by decide)) ?_
  refine aw_callV (i := 597) (as := [.inl _]) (q := 0) K (dOf ck_mL_law rfl rfl) al_OneBreathLaw_126 rfl rfl ⟨wd_1028, wd_1029⟩ rfl (Nat.le_of_ble_eq_true rfl) ⟨Nat.le_of_ble_eq_true rfl, Nat.le_of_ble_eq_true rfl⟩ hr (Nat.le_refl _) (met_B_begun h1) (fun bl1 => ?_)
  refine aw_aload_n (i := 598) K (dOf ck_mL_law rfl rfl) rfl ?_
  refine aw_sload_n (i := 599) K (dOf ck_mL_law rfl rfl) rfl ?_
  refine aw_iload_n (i := 600) K (dOf ck_mL_law rfl rfl) rfl ?_
  refine aw_iconst (i := 601) K (n := 1) (i32 _ rfl) (dOf ck_mL_law rfl rfl) ?_
  refine aw_iadd (i := 602) K (dOf ck_mL_law rfl rfl) ?_
  refine aw_eqi (b := ((6 * n + 1 : Nat) : Int)) (ix_ok hn hL 1 (by decide)) ?_
  refine aw_scrld (i := 603) K hX hb (dOf ck_mL_law rfl rfl) (ix_in hn 1 (by decide)) ?_
  refine aw_callV (i := 604) (as := [.inl _]) (q := 176) K (dOf ck_mL_law rfl rfl) al_OneBreathLaw_129 rfl rfl ⟨wd_1576, wd_1577⟩ rfl (Nat.le_of_ble_eq_true rfl) ⟨Nat.le_of_ble_eq_true rfl, Nat.le_of_ble_eq_true rfl⟩ hr (Nat.le_refl _) (met_R_begun h2) (fun bl2 => ?_)
  refine aw_icmp_eq (i := 605) K (dOf ck_mL_law rfl rfl) (t := 1012) (aJ_of (by decide +kernel)) (fun _ => ?_) (fun z => absurd rfl z)
  have k9 := kk (bl1 ++ bl2)
  rw [← List.append_assoc] at k9
  exact k9
set_option maxHeartbeats 4000000 in
theorem lc_28 {nm : String} {p : Program} {l : Launch} {e : Env} {s : State} {m : MethodId} {args : Array Value} {below : List Frame} {meth : Method} {c : Code} {Q : State → Prop} {D : va_G} {cA : FieldType → ClassId} {ad adV : Nat → Nat} {z0 : Nat} {al : List Nat} {mm : aM} {nc ns : Nat} (K : aK p s m args meth c (mL_law nm) D cA ad adV z0) {n L : Nat} {xs : Nat → Int32} (hX : va_X (ad 21) L xs s s.heap) (hb : ad 21 < z0) (hn : 6 * n + 6 ≤ L) (hL : L ≤ 384) (hr : nc + 0 ≤ 600000 ∧ ns + 0 ≤ 7302250) {r : Int} {mm1 mm2 : aM} (h1 : B_fitted ((xs (6 * n + 1)).toInt) ((xs (6 * n + 2)).toInt) mm = some (r, mm1)) (h2 : R_fitted ((xs (6 * n + 1)).toInt) ((xs (6 * n + 2)).toInt) mm1 = some (r, mm2)) (kk : ∀ bl, AW p l e room_1 s m args below meth c Q D cA ad z0 (mL_law nm) (al ++ bl) 1012 (lawLv n) [] SH mm2 nc ns) : AW p l e room_1 s m args below meth c Q D cA ad z0 (mL_law nm) al 608 (lawLv n) [] SH mm nc ns := by
  unfold lawLv
  refine aw_aload_n (i := 608) K (dOf ck_mL_law rfl rfl) rfl ?_
  refine aw_sload_n (i := 609) K (dOf ck_mL_law rfl rfl) rfl ?_
  refine aw_iload_n (i := 610) K (dOf ck_mL_law rfl rfl) rfl ?_
  refine aw_iconst (i := 611) K (n := 1) (i32 _ rfl) (dOf ck_mL_law rfl rfl) ?_
  refine aw_iadd (i := 612) K (dOf ck_mL_law rfl rfl) ?_
  refine aw_eqi (b := ((6 * n + 1 : Nat) : Int)) (ix_ok hn hL 1 (by decide)) ?_
  refine aw_scrld (i := 613) K hX hb (dOf ck_mL_law rfl rfl) (ix_in hn 1 (by decide)) ?_
  refine aw_sload_n (i := 614) K (dOf ck_mL_law rfl rfl) rfl ?_
  refine aw_iload_n (i := 615) K (dOf ck_mL_law rfl rfl) rfl ?_
  refine aw_iconst (i := 616) K (n := 2) (i32 _ rfl) (dOf ck_mL_law rfl rfl) ?_
  refine aw_iadd (i := 617) K (dOf ck_mL_law rfl rfl) ?_
  refine aw_eqi (b := ((6 * n + 2 : Nat) : Int)) (ix_ok hn hL 2 (by decide)) ?_
  refine aw_scrld (i := 618) K hX hb (dOf ck_mL_law rfl rfl) (ix_in hn 2 (by decide)) ?_
  refine aw_callV (i := 619) (as := [.inl _, .inl _]) (q := 0) K (dOf ck_mL_law rfl rfl) al_OneBreathLaw_130 rfl rfl ⟨wd_1037, wd_1038⟩ rfl (Nat.le_of_ble_eq_true rfl) ⟨Nat.le_of_ble_eq_true rfl, Nat.le_of_ble_eq_true rfl⟩ hr (Nat.le_refl _) (met_B_fitted h1) (fun bl1 => ?_)
  refine aw_aload_n (i := 620) K (dOf ck_mL_law rfl rfl) rfl ?_
  refine aw_sload_n (i := 621) K (dOf ck_mL_law rfl rfl) rfl ?_
  refine aw_iload_n (i := 622) K (dOf ck_mL_law rfl rfl) rfl ?_
  refine aw_iconst (i := 623) K (n := 1) (i32 _ rfl) (dOf ck_mL_law rfl rfl) ?_
  refine aw_iadd (i := 624) K (dOf ck_mL_law rfl rfl) ?_
  refine aw_eqi (b := ((6 * n + 1 : Nat) : Int)) (ix_ok hn hL 1 (by decide)) ?_
  refine aw_scrld (i := 625) K hX hb (dOf ck_mL_law rfl rfl) (ix_in hn 1 (by decide)) ?_
  refine aw_sload_n (i := 626) K (dOf ck_mL_law rfl rfl) rfl ?_
  refine aw_iload_n (i := 627) K (dOf ck_mL_law rfl rfl) rfl ?_
  refine aw_iconst (i := 628) K (n := 2) (i32 _ rfl) (dOf ck_mL_law rfl rfl) ?_
  refine aw_iadd (i := 629) K (dOf ck_mL_law rfl rfl) ?_
  refine aw_eqi (b := ((6 * n + 2 : Nat) : Int)) (ix_ok hn hL 2 (by decide)) ?_
  refine aw_scrld (i := 630) K hX hb (dOf ck_mL_law rfl rfl) (ix_in hn 2 (by decide)) ?_
  refine aw_callV (i := 631) (as := [.inl _, .inl _]) (q := 176) K (dOf ck_mL_law rfl rfl) al_OneBreathLaw_133 rfl rfl ⟨wd_1583, wd_1584⟩ rfl (Nat.le_of_ble_eq_true rfl) ⟨Nat.le_of_ble_eq_true rfl, Nat.le_of_ble_eq_true rfl⟩ hr (Nat.le_refl _) (met_R_fitted h2) (fun bl2 => ?_)
  refine aw_icmp_eq (i := 632) K (dOf ck_mL_law rfl rfl) (t := 1012) (aJ_of (by decide +kernel)) (fun _ => ?_) (fun z => absurd rfl z)
  have k9 := kk (bl1 ++ bl2)
  rw [← List.append_assoc] at k9
  exact k9
set_option maxHeartbeats 4000000 in
theorem lc_29 {nm : String} {p : Program} {l : Launch} {e : Env} {s : State} {m : MethodId} {args : Array Value} {below : List Frame} {meth : Method} {c : Code} {Q : State → Prop} {D : va_G} {cA : FieldType → ClassId} {ad adV : Nat → Nat} {z0 : Nat} {al : List Nat} {mm : aM} {nc ns : Nat} (K : aK p s m args meth c (mL_law nm) D cA ad adV z0) {n L : Nat} {xs : Nat → Int32} (hX : va_X (ad 21) L xs s s.heap) (hb : ad 21 < z0) (hn : 6 * n + 6 ≤ L) (hL : L ≤ 384) (hr : nc + 0 ≤ 600000 ∧ ns + 0 ≤ 7302250) {r : Int} {mm2 : aM} (h1 : B_talk mm = some r) (h2 : R_talk mm = some (r, mm2)) (kk : ∀ bl, AW p l e room_1 s m args below meth c Q D cA ad z0 (mL_law nm) (al ++ bl) 1012 (lawLv n) [] SH mm2 nc ns) : AW p l e room_1 s m args below meth c Q D cA ad z0 (mL_law nm) al 635 (lawLv n) [] SH mm nc ns := by
  unfold lawLv
  refine aw_aload_n (i := 635) K (dOf ck_mL_law rfl rfl) rfl ?_
  refine aw_callV (i := 636) (as := []) (q := 0) K (dOf ck_mL_law rfl rfl) al_OneBreathLaw_134 rfl rfl ⟨wd_1045, wd_1046⟩ rfl (Nat.le_of_ble_eq_true rfl) ⟨Nat.le_of_ble_eq_true rfl, Nat.le_of_ble_eq_true rfl⟩ hr (Nat.le_refl _) (met_B_talk h1) (fun bl1 => ?_)
  refine aw_aload_n (i := 637) K (dOf ck_mL_law rfl rfl) rfl ?_
  refine aw_callV (i := 638) (as := []) (q := 176) K (dOf ck_mL_law rfl rfl) al_OneBreathLaw_137 rfl rfl ⟨wd_1593, wd_1594⟩ rfl (Nat.le_of_ble_eq_true rfl) ⟨Nat.le_of_ble_eq_true rfl, Nat.le_of_ble_eq_true rfl⟩ hr (Nat.le_refl _) (met_R_talk h2) (fun bl2 => ?_)
  refine aw_icmp_eq (i := 639) K (dOf ck_mL_law rfl rfl) (t := 1012) (aJ_of (by decide +kernel)) (fun _ => ?_) (fun z => absurd rfl z)
  have k9 := kk (bl1 ++ bl2)
  rw [← List.append_assoc] at k9
  exact k9
set_option maxHeartbeats 4000000 in
theorem lc_30 {nm : String} {p : Program} {l : Launch} {e : Env} {s : State} {m : MethodId} {args : Array Value} {below : List Frame} {meth : Method} {c : Code} {Q : State → Prop} {D : va_G} {cA : FieldType → ClassId} {ad adV : Nat → Nat} {z0 : Nat} {al : List Nat} {mm : aM} {nc ns : Nat} (K : aK p s m args meth c (mL_law nm) D cA ad adV z0) {n L : Nat} {xs : Nat → Int32} (hX : va_X (ad 21) L xs s s.heap) (hb : ad 21 < z0) (hn : 6 * n + 6 ≤ L) (hL : L ≤ 384) (hr : nc + 0 ≤ 600000 ∧ ns + 0 ≤ 7302250) {r : Int} {mm1 mm2 : aM} (h1 : B_code ((xs (6 * n + 1)).toInt) mm = some (r, mm1)) (h2 : R_code ((xs (6 * n + 1)).toInt) mm1 = some (r, mm2)) (kk : ∀ bl, AW p l e room_1 s m args below meth c Q D cA ad z0 (mL_law nm) (al ++ bl) 1012 (lawLv n) [] SH mm2 nc ns) : AW p l e room_1 s m args below meth c Q D cA ad z0 (mL_law nm) al 642 (lawLv n) [] SH mm nc ns := by
  unfold lawLv
  refine aw_aload_n (i := 642) K (dOf ck_mL_law rfl rfl) rfl ?_
  refine aw_sload_n (i := 643) K (dOf ck_mL_law rfl rfl) rfl ?_
  refine aw_iload_n (i := 644) K (dOf ck_mL_law rfl rfl) rfl ?_
  refine aw_iconst (i := 645) K (n := 1) (i32 _ rfl) (dOf ck_mL_law rfl rfl) ?_
  refine aw_iadd (i := 646) K (dOf ck_mL_law rfl rfl) ?_
  refine aw_eqi (b := ((6 * n + 1 : Nat) : Int)) (ix_ok hn hL 1 (by decide)) ?_
  refine aw_scrld (i := 647) K hX hb (dOf ck_mL_law rfl rfl) (ix_in hn 1 (by decide)) ?_
  refine aw_callV (i := 648) (as := [.inl _]) (q := 0) K (dOf ck_mL_law rfl rfl) al_OneBreathLaw_138 rfl rfl ⟨wd_1049, wd_1050⟩ rfl (Nat.le_of_ble_eq_true rfl) ⟨Nat.le_of_ble_eq_true rfl, Nat.le_of_ble_eq_true rfl⟩ hr (Nat.le_refl _) (met_B_code h1) (fun bl1 => ?_)
  refine aw_aload_n (i := 649) K (dOf ck_mL_law rfl rfl) rfl ?_
  refine aw_sload_n (i := 650) K (dOf ck_mL_law rfl rfl) rfl ?_
  refine aw_iload_n (i := 651) K (dOf ck_mL_law rfl rfl) rfl ?_
  refine aw_iconst (i := 652) K (n := 1) (i32 _ rfl) (dOf ck_mL_law rfl rfl) ?_
  refine aw_iadd (i := 653) K (dOf ck_mL_law rfl rfl) ?_
  refine aw_eqi (b := ((6 * n + 1 : Nat) : Int)) (ix_ok hn hL 1 (by decide)) ?_
  refine aw_scrld (i := 654) K hX hb (dOf ck_mL_law rfl rfl) (ix_in hn 1 (by decide)) ?_
  refine aw_callV (i := 655) (as := [.inl _]) (q := 176) K (dOf ck_mL_law rfl rfl) al_OneBreathLaw_141 rfl rfl ⟨wd_1597, wd_1598⟩ rfl (Nat.le_of_ble_eq_true rfl) ⟨Nat.le_of_ble_eq_true rfl, Nat.le_of_ble_eq_true rfl⟩ hr (Nat.le_refl _) (met_R_code h2) (fun bl2 => ?_)
  refine aw_icmp_eq (i := 656) K (dOf ck_mL_law rfl rfl) (t := 1012) (aJ_of (by decide +kernel)) (fun _ => ?_) (fun z => absurd rfl z)
  have k9 := kk (bl1 ++ bl2)
  rw [← List.append_assoc] at k9
  exact k9
set_option maxHeartbeats 4000000 in
theorem lc_31 {nm : String} {p : Program} {l : Launch} {e : Env} {s : State} {m : MethodId} {args : Array Value} {below : List Frame} {meth : Method} {c : Code} {Q : State → Prop} {D : va_G} {cA : FieldType → ClassId} {ad adV : Nat → Nat} {z0 : Nat} {al : List Nat} {mm : aM} {nc ns : Nat} (K : aK p s m args meth c (mL_law nm) D cA ad adV z0) {n L : Nat} {xs : Nat → Int32} (hX : va_X (ad 21) L xs s s.heap) (hb : ad 21 < z0) (hn : 6 * n + 6 ≤ L) (hL : L ≤ 384) (hr : nc + 0 ≤ 600000 ∧ ns + 0 ≤ 7302250) {r : Int} {mm1 mm2 : aM} (h1 : B_said ((xs (6 * n + 1)).toInt) mm = some (r, mm1)) (h2 : R_said ((xs (6 * n + 1)).toInt) mm1 = some (r, mm2)) (kk : ∀ bl, AW p l e room_1 s m args below meth c Q D cA ad z0 (mL_law nm) (al ++ bl) 1012 (lawLv n) [] SH mm2 nc ns) : AW p l e room_1 s m args below meth c Q D cA ad z0 (mL_law nm) al 659 (lawLv n) [] SH mm nc ns := by
  unfold lawLv
  refine aw_aload_n (i := 659) K (dOf ck_mL_law rfl rfl) rfl ?_
  refine aw_sload_n (i := 660) K (dOf ck_mL_law rfl rfl) rfl ?_
  refine aw_iload_n (i := 661) K (dOf ck_mL_law rfl rfl) rfl ?_
  refine aw_iconst (i := 662) K (n := 1) (i32 _ rfl) (dOf ck_mL_law rfl rfl) ?_
  refine aw_iadd (i := 663) K (dOf ck_mL_law rfl rfl) ?_
  refine aw_eqi (b := ((6 * n + 1 : Nat) : Int)) (ix_ok hn hL 1 (by decide)) ?_
  refine aw_scrld (i := 664) K hX hb (dOf ck_mL_law rfl rfl) (ix_in hn 1 (by decide)) ?_
  refine aw_callV (i := 665) (as := [.inl _]) (q := 0) K (dOf ck_mL_law rfl rfl) al_OneBreathLaw_142 rfl rfl ⟨wd_1064, wd_1065⟩ rfl (Nat.le_of_ble_eq_true rfl) ⟨Nat.le_of_ble_eq_true rfl, Nat.le_of_ble_eq_true rfl⟩ hr (Nat.le_refl _) (met_B_said h1) (fun bl1 => ?_)
  refine aw_aload_n (i := 666) K (dOf ck_mL_law rfl rfl) rfl ?_
  refine aw_sload_n (i := 667) K (dOf ck_mL_law rfl rfl) rfl ?_
  refine aw_iload_n (i := 668) K (dOf ck_mL_law rfl rfl) rfl ?_
  refine aw_iconst (i := 669) K (n := 1) (i32 _ rfl) (dOf ck_mL_law rfl rfl) ?_
  refine aw_iadd (i := 670) K (dOf ck_mL_law rfl rfl) ?_
  refine aw_eqi (b := ((6 * n + 1 : Nat) : Int)) (ix_ok hn hL 1 (by decide)) ?_
  refine aw_scrld (i := 671) K hX hb (dOf ck_mL_law rfl rfl) (ix_in hn 1 (by decide)) ?_
  refine aw_callV (i := 672) (as := [.inl _]) (q := 176) K (dOf ck_mL_law rfl rfl) al_OneBreathLaw_145 rfl rfl ⟨wd_1602, wd_1603⟩ rfl (Nat.le_of_ble_eq_true rfl) ⟨Nat.le_of_ble_eq_true rfl, Nat.le_of_ble_eq_true rfl⟩ hr (Nat.le_refl _) (met_R_said h2) (fun bl2 => ?_)
  refine aw_icmp_eq (i := 673) K (dOf ck_mL_law rfl rfl) (t := 1012) (aJ_of (by decide +kernel)) (fun _ => ?_) (fun z => absurd rfl z)
  have k9 := kk (bl1 ++ bl2)
  rw [← List.append_assoc] at k9
  exact k9
set_option maxHeartbeats 4000000 in
theorem lc_32 {nm : String} {p : Program} {l : Launch} {e : Env} {s : State} {m : MethodId} {args : Array Value} {below : List Frame} {meth : Method} {c : Code} {Q : State → Prop} {D : va_G} {cA : FieldType → ClassId} {ad adV : Nat → Nat} {z0 : Nat} {al : List Nat} {mm : aM} {nc ns : Nat} (K : aK p s m args meth c (mL_law nm) D cA ad adV z0) {n L : Nat} {xs : Nat → Int32} (hX : va_X (ad 21) L xs s s.heap) (hb : ad 21 < z0) (hn : 6 * n + 6 ≤ L) (hL : L ≤ 384) (hr : nc + 0 ≤ 600000 ∧ ns + 0 ≤ 7302250) {r : Int} {mm1 mm2 : aM} (h1 : B_richest ((xs (6 * n + 1)).toInt) ((xs (6 * n + 2)).toInt) mm = some (r, mm1)) (h2 : R_richest ((xs (6 * n + 1)).toInt) ((xs (6 * n + 2)).toInt) mm1 = some (r, mm2)) (kk : ∀ bl, AW p l e room_1 s m args below meth c Q D cA ad z0 (mL_law nm) (al ++ bl) 1012 (lawLv n) [] SH mm2 nc ns) : AW p l e room_1 s m args below meth c Q D cA ad z0 (mL_law nm) al 676 (lawLv n) [] SH mm nc ns := by
  unfold lawLv
  refine aw_aload_n (i := 676) K (dOf ck_mL_law rfl rfl) rfl ?_
  refine aw_sload_n (i := 677) K (dOf ck_mL_law rfl rfl) rfl ?_
  refine aw_iload_n (i := 678) K (dOf ck_mL_law rfl rfl) rfl ?_
  refine aw_iconst (i := 679) K (n := 1) (i32 _ rfl) (dOf ck_mL_law rfl rfl) ?_
  refine aw_iadd (i := 680) K (dOf ck_mL_law rfl rfl) ?_
  refine aw_eqi (b := ((6 * n + 1 : Nat) : Int)) (ix_ok hn hL 1 (by decide)) ?_
  refine aw_scrld (i := 681) K hX hb (dOf ck_mL_law rfl rfl) (ix_in hn 1 (by decide)) ?_
  refine aw_sload_n (i := 682) K (dOf ck_mL_law rfl rfl) rfl ?_
  refine aw_iload_n (i := 683) K (dOf ck_mL_law rfl rfl) rfl ?_
  refine aw_iconst (i := 684) K (n := 2) (i32 _ rfl) (dOf ck_mL_law rfl rfl) ?_
  refine aw_iadd (i := 685) K (dOf ck_mL_law rfl rfl) ?_
  refine aw_eqi (b := ((6 * n + 2 : Nat) : Int)) (ix_ok hn hL 2 (by decide)) ?_
  refine aw_scrld (i := 686) K hX hb (dOf ck_mL_law rfl rfl) (ix_in hn 2 (by decide)) ?_
  refine aw_callV (i := 687) (as := [.inl _, .inl _]) (q := 0) K (dOf ck_mL_law rfl rfl) al_OneBreathLaw_146 rfl rfl ⟨wd_1072, wd_1073⟩ rfl (Nat.le_of_ble_eq_true rfl) ⟨Nat.le_of_ble_eq_true rfl, Nat.le_of_ble_eq_true rfl⟩ hr (Nat.le_refl _) (met_B_richest h1) (fun bl1 => ?_)
  refine aw_aload_n (i := 688) K (dOf ck_mL_law rfl rfl) rfl ?_
  refine aw_sload_n (i := 689) K (dOf ck_mL_law rfl rfl) rfl ?_
  refine aw_iload_n (i := 690) K (dOf ck_mL_law rfl rfl) rfl ?_
  refine aw_iconst (i := 691) K (n := 1) (i32 _ rfl) (dOf ck_mL_law rfl rfl) ?_
  refine aw_iadd (i := 692) K (dOf ck_mL_law rfl rfl) ?_
  refine aw_eqi (b := ((6 * n + 1 : Nat) : Int)) (ix_ok hn hL 1 (by decide)) ?_
  refine aw_scrld (i := 693) K hX hb (dOf ck_mL_law rfl rfl) (ix_in hn 1 (by decide)) ?_
  refine aw_sload_n (i := 694) K (dOf ck_mL_law rfl rfl) rfl ?_
  refine aw_iload_n (i := 695) K (dOf ck_mL_law rfl rfl) rfl ?_
  refine aw_iconst (i := 696) K (n := 2) (i32 _ rfl) (dOf ck_mL_law rfl rfl) ?_
  refine aw_iadd (i := 697) K (dOf ck_mL_law rfl rfl) ?_
  refine aw_eqi (b := ((6 * n + 2 : Nat) : Int)) (ix_ok hn hL 2 (by decide)) ?_
  refine aw_scrld (i := 698) K hX hb (dOf ck_mL_law rfl rfl) (ix_in hn 2 (by decide)) ?_
  refine aw_callV (i := 699) (as := [.inl _, .inl _]) (q := 176) K (dOf ck_mL_law rfl rfl) al_OneBreathLaw_149 rfl rfl ⟨wd_1621, wd_1622⟩ rfl (Nat.le_of_ble_eq_true rfl) ⟨Nat.le_of_ble_eq_true rfl, Nat.le_of_ble_eq_true rfl⟩ hr (Nat.le_refl _) (met_R_richest h2) (fun bl2 => ?_)
  refine aw_icmp_eq (i := 700) K (dOf ck_mL_law rfl rfl) (t := 1012) (aJ_of (by decide +kernel)) (fun _ => ?_) (fun z => absurd rfl z)
  have k9 := kk (bl1 ++ bl2)
  rw [← List.append_assoc] at k9
  exact k9
set_option maxHeartbeats 4000000 in
theorem lc_33 {nm : String} {p : Program} {l : Launch} {e : Env} {s : State} {m : MethodId} {args : Array Value} {below : List Frame} {meth : Method} {c : Code} {Q : State → Prop} {D : va_G} {cA : FieldType → ClassId} {ad adV : Nat → Nat} {z0 : Nat} {al : List Nat} {mm : aM} {nc ns : Nat} (K : aK p s m args meth c (mL_law nm) D cA ad adV z0) {n L : Nat} {xs : Nat → Int32} (hX : va_X (ad 21) L xs s s.heap) (hb : ad 21 < z0) (hn : 6 * n + 6 ≤ L) (hL : L ≤ 384) (hr : nc + 0 ≤ 600000 ∧ ns + 0 ≤ 7302250) {r : Int} {mm1 mm2 : aM} (h1 : B_endless mm = some (r, mm1)) (h2 : R_endless mm1 = some (r, mm2)) (kk : ∀ bl, AW p l e room_1 s m args below meth c Q D cA ad z0 (mL_law nm) (al ++ bl) 1012 (lawLv n) [] SH mm2 nc ns) : AW p l e room_1 s m args below meth c Q D cA ad z0 (mL_law nm) al 703 (lawLv n) [] SH mm nc ns := by
  unfold lawLv
  refine aw_aload_n (i := 703) K (dOf ck_mL_law rfl rfl) rfl ?_
  refine aw_callV (i := 704) (as := []) (q := 0) K (dOf ck_mL_law rfl rfl) al_OneBreathLaw_150 rfl rfl ⟨wd_1080, wd_1081⟩ rfl (Nat.le_of_ble_eq_true rfl) ⟨Nat.le_of_ble_eq_true rfl, Nat.le_of_ble_eq_true rfl⟩ hr (Nat.le_refl _) (met_B_endless h1) (fun bl1 => ?_)
  refine aw_aload_n (i := 705) K (dOf ck_mL_law rfl rfl) rfl ?_
  refine aw_callV (i := 706) (as := []) (q := 176) K (dOf ck_mL_law rfl rfl) al_OneBreathLaw_153 rfl rfl ⟨wd_1607, wd_1608⟩ rfl (Nat.le_of_ble_eq_true rfl) ⟨Nat.le_of_ble_eq_true rfl, Nat.le_of_ble_eq_true rfl⟩ hr (Nat.le_refl _) (met_R_endless h2) (fun bl2 => ?_)
  refine aw_icmp_eq (i := 707) K (dOf ck_mL_law rfl rfl) (t := 1012) (aJ_of (by decide +kernel)) (fun _ => ?_) (fun z => absurd rfl z)
  have k9 := kk (bl1 ++ bl2)
  rw [← List.append_assoc] at k9
  exact k9
set_option maxHeartbeats 4000000 in
theorem lc_34 {nm : String} {p : Program} {l : Launch} {e : Env} {s : State} {m : MethodId} {args : Array Value} {below : List Frame} {meth : Method} {c : Code} {Q : State → Prop} {D : va_G} {cA : FieldType → ClassId} {ad adV : Nat → Nat} {z0 : Nat} {al : List Nat} {mm : aM} {nc ns : Nat} (K : aK p s m args meth c (mL_law nm) D cA ad adV z0) {n L : Nat} {xs : Nat → Int32} (hX : va_X (ad 21) L xs s s.heap) (hb : ad 21 < z0) (hn : 6 * n + 6 ≤ L) (hL : L ≤ 384) (hr : nc + 0 ≤ 600000 ∧ ns + 0 ≤ 7302250) {r : Int} {mm1 mm2 : aM} (h1 : B_longest mm = some (r, mm1)) (h2 : R_longest mm1 = some (r, mm2)) (kk : ∀ bl, AW p l e room_1 s m args below meth c Q D cA ad z0 (mL_law nm) (al ++ bl) 1012 (lawLv n) [] SH mm2 nc ns) : AW p l e room_1 s m args below meth c Q D cA ad z0 (mL_law nm) al 710 (lawLv n) [] SH mm nc ns := by
  unfold lawLv
  refine aw_aload_n (i := 710) K (dOf ck_mL_law rfl rfl) rfl ?_
  refine aw_callV (i := 711) (as := []) (q := 0) K (dOf ck_mL_law rfl rfl) al_OneBreathLaw_154 rfl rfl ⟨wd_1097, wd_1098⟩ rfl (Nat.le_of_ble_eq_true rfl) ⟨Nat.le_of_ble_eq_true rfl, Nat.le_of_ble_eq_true rfl⟩ hr (Nat.le_refl _) (met_B_longest h1) (fun bl1 => ?_)
  refine aw_aload_n (i := 712) K (dOf ck_mL_law rfl rfl) rfl ?_
  refine aw_callV (i := 713) (as := []) (q := 176) K (dOf ck_mL_law rfl rfl) al_OneBreathLaw_157 rfl rfl ⟨wd_1617, wd_1618⟩ rfl (Nat.le_of_ble_eq_true rfl) ⟨Nat.le_of_ble_eq_true rfl, Nat.le_of_ble_eq_true rfl⟩ hr (Nat.le_refl _) (met_R_longest h2) (fun bl2 => ?_)
  refine aw_icmp_eq (i := 714) K (dOf ck_mL_law rfl rfl) (t := 1012) (aJ_of (by decide +kernel)) (fun _ => ?_) (fun z => absurd rfl z)
  have k9 := kk (bl1 ++ bl2)
  rw [← List.append_assoc] at k9
  exact k9
set_option maxHeartbeats 4000000 in
theorem lc_35 {nm : String} {p : Program} {l : Launch} {e : Env} {s : State} {m : MethodId} {args : Array Value} {below : List Frame} {meth : Method} {c : Code} {Q : State → Prop} {D : va_G} {cA : FieldType → ClassId} {ad adV : Nat → Nat} {z0 : Nat} {al : List Nat} {mm : aM} {nc ns : Nat} (K : aK p s m args meth c (mL_law nm) D cA ad adV z0) {n L : Nat} {xs : Nat → Int32} (hX : va_X (ad 21) L xs s s.heap) (hb : ad 21 < z0) (hn : 6 * n + 6 ≤ L) (hL : L ≤ 384) (hr : nc + 0 ≤ 600000 ∧ ns + 0 ≤ 7302250) {r : Int} {mm1 mm2 : aM} (h1 : B_noise ((xs (6 * n + 1)).toInt) ((xs (6 * n + 2)).toInt) ((xs (6 * n + 3)).toInt) ((xs (6 * n + 4)).toInt) mm = some (r, mm1)) (h2 : R_noise ((xs (6 * n + 1)).toInt) ((xs (6 * n + 2)).toInt) ((xs (6 * n + 3)).toInt) ((xs (6 * n + 4)).toInt) mm1 = some (r, mm2)) (kk : ∀ bl, AW p l e room_1 s m args below meth c Q D cA ad z0 (mL_law nm) (al ++ bl) 1012 (lawLv n) [] SH mm2 nc ns) : AW p l e room_1 s m args below meth c Q D cA ad z0 (mL_law nm) al 717 (lawLv n) [] SH mm nc ns := by
  unfold lawLv
  refine aw_aload_n (i := 717) K (dOf ck_mL_law rfl rfl) rfl ?_
  refine aw_sload_n (i := 718) K (dOf ck_mL_law rfl rfl) rfl ?_
  refine aw_iload_n (i := 719) K (dOf ck_mL_law rfl rfl) rfl ?_
  refine aw_iconst (i := 720) K (n := 1) (i32 _ rfl) (dOf ck_mL_law rfl rfl) ?_
  refine aw_iadd (i := 721) K (dOf ck_mL_law rfl rfl) ?_
  refine aw_eqi (b := ((6 * n + 1 : Nat) : Int)) (ix_ok hn hL 1 (by decide)) ?_
  refine aw_scrld (i := 722) K hX hb (dOf ck_mL_law rfl rfl) (ix_in hn 1 (by decide)) ?_
  refine aw_sload_n (i := 723) K (dOf ck_mL_law rfl rfl) rfl ?_
  refine aw_iload_n (i := 724) K (dOf ck_mL_law rfl rfl) rfl ?_
  refine aw_iconst (i := 725) K (n := 2) (i32 _ rfl) (dOf ck_mL_law rfl rfl) ?_
  refine aw_iadd (i := 726) K (dOf ck_mL_law rfl rfl) ?_
  refine aw_eqi (b := ((6 * n + 2 : Nat) : Int)) (ix_ok hn hL 2 (by decide)) ?_
  refine aw_scrld (i := 727) K hX hb (dOf ck_mL_law rfl rfl) (ix_in hn 2 (by decide)) ?_
  refine aw_sload_n (i := 728) K (dOf ck_mL_law rfl rfl) rfl ?_
  refine aw_iload_n (i := 729) K (dOf ck_mL_law rfl rfl) rfl ?_
  refine aw_iconst (i := 730) K (n := 3) (i32 _ rfl) (dOf ck_mL_law rfl rfl) ?_
  refine aw_iadd (i := 731) K (dOf ck_mL_law rfl rfl) ?_
  refine aw_eqi (b := ((6 * n + 3 : Nat) : Int)) (ix_ok hn hL 3 (by decide)) ?_
  refine aw_scrld (i := 732) K hX hb (dOf ck_mL_law rfl rfl) (ix_in hn 3 (by decide)) ?_
  refine aw_sload_n (i := 733) K (dOf ck_mL_law rfl rfl) rfl ?_
  refine aw_iload_n (i := 734) K (dOf ck_mL_law rfl rfl) rfl ?_
  refine aw_iconst (i := 735) K (n := 4) (i32 _ rfl) (dOf ck_mL_law rfl rfl) ?_
  refine aw_iadd (i := 736) K (dOf ck_mL_law rfl rfl) ?_
  refine aw_eqi (b := ((6 * n + 4 : Nat) : Int)) (ix_ok hn hL 4 (by decide)) ?_
  refine aw_scrld (i := 737) K hX hb (dOf ck_mL_law rfl rfl) (ix_in hn 4 (by decide)) ?_
  refine aw_callV (i := 738) (as := [.inl _, .inl _, .inl _, .inl _]) (q := 0) K (dOf ck_mL_law rfl rfl) al_OneBreathLaw_158 rfl rfl ⟨wd_1101, wd_1102⟩ rfl (Nat.le_of_ble_eq_true rfl) ⟨Nat.le_of_ble_eq_true rfl, Nat.le_of_ble_eq_true rfl⟩ hr (Nat.le_refl _) (met_B_noise h1) (fun bl1 => ?_)
  refine aw_aload_n (i := 739) K (dOf ck_mL_law rfl rfl) rfl ?_
  refine aw_sload_n (i := 740) K (dOf ck_mL_law rfl rfl) rfl ?_
  refine aw_iload_n (i := 741) K (dOf ck_mL_law rfl rfl) rfl ?_
  refine aw_iconst (i := 742) K (n := 1) (i32 _ rfl) (dOf ck_mL_law rfl rfl) ?_
  refine aw_iadd (i := 743) K (dOf ck_mL_law rfl rfl) ?_
  refine aw_eqi (b := ((6 * n + 1 : Nat) : Int)) (ix_ok hn hL 1 (by decide)) ?_
  refine aw_scrld (i := 744) K hX hb (dOf ck_mL_law rfl rfl) (ix_in hn 1 (by decide)) ?_
  refine aw_sload_n (i := 745) K (dOf ck_mL_law rfl rfl) rfl ?_
  refine aw_iload_n (i := 746) K (dOf ck_mL_law rfl rfl) rfl ?_
  refine aw_iconst (i := 747) K (n := 2) (i32 _ rfl) (dOf ck_mL_law rfl rfl) ?_
  refine aw_iadd (i := 748) K (dOf ck_mL_law rfl rfl) ?_
  refine aw_eqi (b := ((6 * n + 2 : Nat) : Int)) (ix_ok hn hL 2 (by decide)) ?_
  refine aw_scrld (i := 749) K hX hb (dOf ck_mL_law rfl rfl) (ix_in hn 2 (by decide)) ?_
  refine aw_sload_n (i := 750) K (dOf ck_mL_law rfl rfl) rfl ?_
  refine aw_iload_n (i := 751) K (dOf ck_mL_law rfl rfl) rfl ?_
  refine aw_iconst (i := 752) K (n := 3) (i32 _ rfl) (dOf ck_mL_law rfl rfl) ?_
  refine aw_iadd (i := 753) K (dOf ck_mL_law rfl rfl) ?_
  refine aw_eqi (b := ((6 * n + 3 : Nat) : Int)) (ix_ok hn hL 3 (by decide)) ?_
  refine aw_scrld (i := 754) K hX hb (dOf ck_mL_law rfl rfl) (ix_in hn 3 (by decide)) ?_
  refine aw_sload_n (i := 755) K (dOf ck_mL_law rfl rfl) rfl ?_
  refine aw_iload_n (i := 756) K (dOf ck_mL_law rfl rfl) rfl ?_
  refine aw_iconst (i := 757) K (n := 4) (i32 _ rfl) (dOf ck_mL_law rfl rfl) ?_
  refine aw_iadd (i := 758) K (dOf ck_mL_law rfl rfl) ?_
  refine aw_eqi (b := ((6 * n + 4 : Nat) : Int)) (ix_ok hn hL 4 (by decide)) ?_
  refine aw_scrld (i := 759) K hX hb (dOf ck_mL_law rfl rfl) (ix_in hn 4 (by decide)) ?_
  refine aw_callV (i := 760) (as := [.inl _, .inl _, .inl _, .inl _]) (q := 176) K (dOf ck_mL_law rfl rfl) al_OneBreathLaw_162 rfl rfl ⟨wd_1631, wd_1632⟩ rfl (Nat.le_of_ble_eq_true rfl) ⟨Nat.le_of_ble_eq_true rfl, Nat.le_of_ble_eq_true rfl⟩ hr (Nat.le_refl _) (met_R_noise h2) (fun bl2 => ?_)
  refine aw_icmp_eq (i := 761) K (dOf ck_mL_law rfl rfl) (t := 1012) (aJ_of (by decide +kernel)) (fun _ => ?_) (fun z => absurd rfl z)
  have k9 := kk (bl1 ++ bl2)
  rw [← List.append_assoc] at k9
  exact k9
set_option maxHeartbeats 4000000 in
theorem lc_36 {nm : String} {p : Program} {l : Launch} {e : Env} {s : State} {m : MethodId} {args : Array Value} {below : List Frame} {meth : Method} {c : Code} {Q : State → Prop} {D : va_G} {cA : FieldType → ClassId} {ad adV : Nat → Nat} {z0 : Nat} {al : List Nat} {mm : aM} {nc ns : Nat} (K : aK p s m args meth c (mL_law nm) D cA ad adV z0) {n L : Nat} {xs : Nat → Int32} (hX : va_X (ad 21) L xs s s.heap) (hb : ad 21 < z0) (hn : 6 * n + 6 ≤ L) (hL : L ≤ 384) (hr : nc + 0 ≤ 600000 ∧ ns + 0 ≤ 7302250) {r : Int} {mm1 mm2 : aM} (h1 : B_asked ((xs (6 * n + 1)).toInt) ((xs (6 * n + 2)).toInt) ((xs (6 * n + 3)).toInt) mm = some (r, mm1)) (h2 : R_asked ((xs (6 * n + 1)).toInt) ((xs (6 * n + 2)).toInt) ((xs (6 * n + 3)).toInt) mm1 = some (r, mm2)) (kk : ∀ bl, AW p l e room_1 s m args below meth c Q D cA ad z0 (mL_law nm) (al ++ bl) 1012 (lawLv n) [] SH mm2 nc ns) : AW p l e room_1 s m args below meth c Q D cA ad z0 (mL_law nm) al 764 (lawLv n) [] SH mm nc ns := by
  unfold lawLv
  refine aw_aload_n (i := 764) K (dOf ck_mL_law rfl rfl) rfl ?_
  refine aw_sload_n (i := 765) K (dOf ck_mL_law rfl rfl) rfl ?_
  refine aw_iload_n (i := 766) K (dOf ck_mL_law rfl rfl) rfl ?_
  refine aw_iconst (i := 767) K (n := 1) (i32 _ rfl) (dOf ck_mL_law rfl rfl) ?_
  refine aw_iadd (i := 768) K (dOf ck_mL_law rfl rfl) ?_
  refine aw_eqi (b := ((6 * n + 1 : Nat) : Int)) (ix_ok hn hL 1 (by decide)) ?_
  refine aw_scrld (i := 769) K hX hb (dOf ck_mL_law rfl rfl) (ix_in hn 1 (by decide)) ?_
  refine aw_sload_n (i := 770) K (dOf ck_mL_law rfl rfl) rfl ?_
  refine aw_iload_n (i := 771) K (dOf ck_mL_law rfl rfl) rfl ?_
  refine aw_iconst (i := 772) K (n := 2) (i32 _ rfl) (dOf ck_mL_law rfl rfl) ?_
  refine aw_iadd (i := 773) K (dOf ck_mL_law rfl rfl) ?_
  refine aw_eqi (b := ((6 * n + 2 : Nat) : Int)) (ix_ok hn hL 2 (by decide)) ?_
  refine aw_scrld (i := 774) K hX hb (dOf ck_mL_law rfl rfl) (ix_in hn 2 (by decide)) ?_
  refine aw_sload_n (i := 775) K (dOf ck_mL_law rfl rfl) rfl ?_
  refine aw_iload_n (i := 776) K (dOf ck_mL_law rfl rfl) rfl ?_
  refine aw_iconst (i := 777) K (n := 3) (i32 _ rfl) (dOf ck_mL_law rfl rfl) ?_
  refine aw_iadd (i := 778) K (dOf ck_mL_law rfl rfl) ?_
  refine aw_eqi (b := ((6 * n + 3 : Nat) : Int)) (ix_ok hn hL 3 (by decide)) ?_
  refine aw_scrld (i := 779) K hX hb (dOf ck_mL_law rfl rfl) (ix_in hn 3 (by decide)) ?_
  refine aw_callV (i := 780) (as := [.inl _, .inl _, .inl _]) (q := 0) K (dOf ck_mL_law rfl rfl) al_OneBreathLaw_163 rfl rfl ⟨wd_1127, wd_1128⟩ rfl (Nat.le_of_ble_eq_true rfl) ⟨Nat.le_of_ble_eq_true rfl, Nat.le_of_ble_eq_true rfl⟩ hr (Nat.le_refl _) (met_B_asked h1) (fun bl1 => ?_)
  refine aw_aload_n (i := 781) K (dOf ck_mL_law rfl rfl) rfl ?_
  refine aw_sload_n (i := 782) K (dOf ck_mL_law rfl rfl) rfl ?_
  refine aw_iload_n (i := 783) K (dOf ck_mL_law rfl rfl) rfl ?_
  refine aw_iconst (i := 784) K (n := 1) (i32 _ rfl) (dOf ck_mL_law rfl rfl) ?_
  refine aw_iadd (i := 785) K (dOf ck_mL_law rfl rfl) ?_
  refine aw_eqi (b := ((6 * n + 1 : Nat) : Int)) (ix_ok hn hL 1 (by decide)) ?_
  refine aw_scrld (i := 786) K hX hb (dOf ck_mL_law rfl rfl) (ix_in hn 1 (by decide)) ?_
  refine aw_sload_n (i := 787) K (dOf ck_mL_law rfl rfl) rfl ?_
  refine aw_iload_n (i := 788) K (dOf ck_mL_law rfl rfl) rfl ?_
  refine aw_iconst (i := 789) K (n := 2) (i32 _ rfl) (dOf ck_mL_law rfl rfl) ?_
  refine aw_iadd (i := 790) K (dOf ck_mL_law rfl rfl) ?_
  refine aw_eqi (b := ((6 * n + 2 : Nat) : Int)) (ix_ok hn hL 2 (by decide)) ?_
  refine aw_scrld (i := 791) K hX hb (dOf ck_mL_law rfl rfl) (ix_in hn 2 (by decide)) ?_
  refine aw_sload_n (i := 792) K (dOf ck_mL_law rfl rfl) rfl ?_
  refine aw_iload_n (i := 793) K (dOf ck_mL_law rfl rfl) rfl ?_
  refine aw_iconst (i := 794) K (n := 3) (i32 _ rfl) (dOf ck_mL_law rfl rfl) ?_
  refine aw_iadd (i := 795) K (dOf ck_mL_law rfl rfl) ?_
  refine aw_eqi (b := ((6 * n + 3 : Nat) : Int)) (ix_ok hn hL 3 (by decide)) ?_
  refine aw_scrld (i := 796) K hX hb (dOf ck_mL_law rfl rfl) (ix_in hn 3 (by decide)) ?_
  refine aw_callV (i := 797) (as := [.inl _, .inl _, .inl _]) (q := 176) K (dOf ck_mL_law rfl rfl) al_OneBreathLaw_166 rfl rfl ⟨wd_1650, wd_1651⟩ rfl (Nat.le_of_ble_eq_true rfl) ⟨Nat.le_of_ble_eq_true rfl, Nat.le_of_ble_eq_true rfl⟩ hr (Nat.le_refl _) (met_R_asked h2) (fun bl2 => ?_)
  refine aw_icmp_eq (i := 798) K (dOf ck_mL_law rfl rfl) (t := 1012) (aJ_of (by decide +kernel)) (fun _ => ?_) (fun z => absurd rfl z)
  have k9 := kk (bl1 ++ bl2)
  rw [← List.append_assoc] at k9
  exact k9
set_option maxHeartbeats 4000000 in
theorem lc_37 {nm : String} {p : Program} {l : Launch} {e : Env} {s : State} {m : MethodId} {args : Array Value} {below : List Frame} {meth : Method} {c : Code} {Q : State → Prop} {D : va_G} {cA : FieldType → ClassId} {ad adV : Nat → Nat} {z0 : Nat} {al : List Nat} {mm : aM} {nc ns : Nat} (K : aK p s m args meth c (mL_law nm) D cA ad adV z0) {n L : Nat} {xs : Nat → Int32} (hX : va_X (ad 21) L xs s s.heap) (hb : ad 21 < z0) (hn : 6 * n + 6 ≤ L) (hL : L ≤ 384) (hr : nc + 0 ≤ 600000 ∧ ns + 0 ≤ 7302250) {r : Int} {mm2 : aM} (h1 : B_tree mm = some r) (h2 : R_tree mm = some (r, mm2)) (kk : ∀ bl, AW p l e room_1 s m args below meth c Q D cA ad z0 (mL_law nm) (al ++ bl) 1012 (lawLv n) [] SH mm2 nc ns) : AW p l e room_1 s m args below meth c Q D cA ad z0 (mL_law nm) al 801 (lawLv n) [] SH mm nc ns := by
  unfold lawLv
  refine aw_aload_n (i := 801) K (dOf ck_mL_law rfl rfl) rfl ?_
  refine aw_callV (i := 802) (as := []) (q := 0) K (dOf ck_mL_law rfl rfl) al_OneBreathLaw_167 rfl rfl ⟨wd_1131, wd_1132⟩ rfl (Nat.le_of_ble_eq_true rfl) ⟨Nat.le_of_ble_eq_true rfl, Nat.le_of_ble_eq_true rfl⟩ hr (Nat.le_refl _) (met_B_tree h1) (fun bl1 => ?_)
  refine aw_aload_n (i := 803) K (dOf ck_mL_law rfl rfl) rfl ?_
  refine aw_callV (i := 804) (as := []) (q := 176) K (dOf ck_mL_law rfl rfl) al_OneBreathLaw_170 rfl rfl ⟨wd_1654, wd_1655⟩ rfl (Nat.le_of_ble_eq_true rfl) ⟨Nat.le_of_ble_eq_true rfl, Nat.le_of_ble_eq_true rfl⟩ hr (Nat.le_refl _) (met_R_tree h2) (fun bl2 => ?_)
  refine aw_icmp_eq (i := 805) K (dOf ck_mL_law rfl rfl) (t := 1012) (aJ_of (by decide +kernel)) (fun _ => ?_) (fun z => absurd rfl z)
  have k9 := kk (bl1 ++ bl2)
  rw [← List.append_assoc] at k9
  exact k9
set_option maxHeartbeats 4000000 in
theorem lc_38 {nm : String} {p : Program} {l : Launch} {e : Env} {s : State} {m : MethodId} {args : Array Value} {below : List Frame} {meth : Method} {c : Code} {Q : State → Prop} {D : va_G} {cA : FieldType → ClassId} {ad adV : Nat → Nat} {z0 : Nat} {al : List Nat} {mm : aM} {nc ns : Nat} (K : aK p s m args meth c (mL_law nm) D cA ad adV z0) {n L : Nat} {xs : Nat → Int32} (hX : va_X (ad 21) L xs s s.heap) (hb : ad 21 < z0) (hn : 6 * n + 6 ≤ L) (hL : L ≤ 384) (hr : nc + 0 ≤ 600000 ∧ ns + 0 ≤ 7302250) {r : Int} {mm1 mm2 : aM} (h1 : B_limb ((xs (6 * n + 1)).toInt) ((xs (6 * n + 2)).toInt) mm = some (r, mm1)) (h2 : R_limb ((xs (6 * n + 1)).toInt) ((xs (6 * n + 2)).toInt) mm1 = some (r, mm2)) (kk : ∀ bl, AW p l e room_1 s m args below meth c Q D cA ad z0 (mL_law nm) (al ++ bl) 1012 (lawLv n) [] SH mm2 nc ns) : AW p l e room_1 s m args below meth c Q D cA ad z0 (mL_law nm) al 808 (lawLv n) [] SH mm nc ns := by
  unfold lawLv
  refine aw_aload_n (i := 808) K (dOf ck_mL_law rfl rfl) rfl ?_
  refine aw_sload_n (i := 809) K (dOf ck_mL_law rfl rfl) rfl ?_
  refine aw_iload_n (i := 810) K (dOf ck_mL_law rfl rfl) rfl ?_
  refine aw_iconst (i := 811) K (n := 1) (i32 _ rfl) (dOf ck_mL_law rfl rfl) ?_
  refine aw_iadd (i := 812) K (dOf ck_mL_law rfl rfl) ?_
  refine aw_eqi (b := ((6 * n + 1 : Nat) : Int)) (ix_ok hn hL 1 (by decide)) ?_
  refine aw_scrld (i := 813) K hX hb (dOf ck_mL_law rfl rfl) (ix_in hn 1 (by decide)) ?_
  refine aw_sload_n (i := 814) K (dOf ck_mL_law rfl rfl) rfl ?_
  refine aw_iload_n (i := 815) K (dOf ck_mL_law rfl rfl) rfl ?_
  refine aw_iconst (i := 816) K (n := 2) (i32 _ rfl) (dOf ck_mL_law rfl rfl) ?_
  refine aw_iadd (i := 817) K (dOf ck_mL_law rfl rfl) ?_
  refine aw_eqi (b := ((6 * n + 2 : Nat) : Int)) (ix_ok hn hL 2 (by decide)) ?_
  refine aw_scrld (i := 818) K hX hb (dOf ck_mL_law rfl rfl) (ix_in hn 2 (by decide)) ?_
  refine aw_callV (i := 819) (as := [.inl _, .inl _]) (q := 0) K (dOf ck_mL_law rfl rfl) al_OneBreathLaw_171 rfl rfl ⟨wd_1142, wd_1143⟩ rfl (Nat.le_of_ble_eq_true rfl) ⟨Nat.le_of_ble_eq_true rfl, Nat.le_of_ble_eq_true rfl⟩ hr (Nat.le_refl _) (met_B_limb h1) (fun bl1 => ?_)
  refine aw_aload_n (i := 820) K (dOf ck_mL_law rfl rfl) rfl ?_
  refine aw_sload_n (i := 821) K (dOf ck_mL_law rfl rfl) rfl ?_
  refine aw_iload_n (i := 822) K (dOf ck_mL_law rfl rfl) rfl ?_
  refine aw_iconst (i := 823) K (n := 1) (i32 _ rfl) (dOf ck_mL_law rfl rfl) ?_
  refine aw_iadd (i := 824) K (dOf ck_mL_law rfl rfl) ?_
  refine aw_eqi (b := ((6 * n + 1 : Nat) : Int)) (ix_ok hn hL 1 (by decide)) ?_
  refine aw_scrld (i := 825) K hX hb (dOf ck_mL_law rfl rfl) (ix_in hn 1 (by decide)) ?_
  refine aw_sload_n (i := 826) K (dOf ck_mL_law rfl rfl) rfl ?_
  refine aw_iload_n (i := 827) K (dOf ck_mL_law rfl rfl) rfl ?_
  refine aw_iconst (i := 828) K (n := 2) (i32 _ rfl) (dOf ck_mL_law rfl rfl) ?_
  refine aw_iadd (i := 829) K (dOf ck_mL_law rfl rfl) ?_
  refine aw_eqi (b := ((6 * n + 2 : Nat) : Int)) (ix_ok hn hL 2 (by decide)) ?_
  refine aw_scrld (i := 830) K hX hb (dOf ck_mL_law rfl rfl) (ix_in hn 2 (by decide)) ?_
  refine aw_callV (i := 831) (as := [.inl _, .inl _]) (q := 176) K (dOf ck_mL_law rfl rfl) al_OneBreathLaw_174 rfl rfl ⟨wd_1658, wd_1659⟩ rfl (Nat.le_of_ble_eq_true rfl) ⟨Nat.le_of_ble_eq_true rfl, Nat.le_of_ble_eq_true rfl⟩ hr (Nat.le_refl _) (met_R_limb h2) (fun bl2 => ?_)
  refine aw_icmp_eq (i := 832) K (dOf ck_mL_law rfl rfl) (t := 1012) (aJ_of (by decide +kernel)) (fun _ => ?_) (fun z => absurd rfl z)
  have k9 := kk (bl1 ++ bl2)
  rw [← List.append_assoc] at k9
  exact k9
set_option maxHeartbeats 4000000 in
theorem lc_39 {nm : String} {p : Program} {l : Launch} {e : Env} {s : State} {m : MethodId} {args : Array Value} {below : List Frame} {meth : Method} {c : Code} {Q : State → Prop} {D : va_G} {cA : FieldType → ClassId} {ad adV : Nat → Nat} {z0 : Nat} {al : List Nat} {mm : aM} {nc ns : Nat} (K : aK p s m args meth c (mL_law nm) D cA ad adV z0) {n L : Nat} {xs : Nat → Int32} (hX : va_X (ad 21) L xs s s.heap) (hb : ad 21 < z0) (hn : 6 * n + 6 ≤ L) (hL : L ≤ 384) (hr : nc + 0 ≤ 600000 ∧ ns + 0 ≤ 7302250) {r : Int} {mm1 mm2 : aM} (h1 : B_numbers ((xs (6 * n + 1)).toInt) ((xs (6 * n + 2)).toInt) ((xs (6 * n + 3)).toInt) mm = some (r, mm1)) (h2 : R_numbers ((xs (6 * n + 1)).toInt) ((xs (6 * n + 2)).toInt) ((xs (6 * n + 3)).toInt) mm1 = some (r, mm2)) (kk : ∀ bl, AW p l e room_1 s m args below meth c Q D cA ad z0 (mL_law nm) (al ++ bl) 1012 (lawLv n) [] SH mm2 nc ns) : AW p l e room_1 s m args below meth c Q D cA ad z0 (mL_law nm) al 835 (lawLv n) [] SH mm nc ns := by
  unfold lawLv
  refine aw_aload_n (i := 835) K (dOf ck_mL_law rfl rfl) rfl ?_
  refine aw_sload_n (i := 836) K (dOf ck_mL_law rfl rfl) rfl ?_
  refine aw_iload_n (i := 837) K (dOf ck_mL_law rfl rfl) rfl ?_
  refine aw_iconst (i := 838) K (n := 1) (i32 _ rfl) (dOf ck_mL_law rfl rfl) ?_
  refine aw_iadd (i := 839) K (dOf ck_mL_law rfl rfl) ?_
  refine aw_eqi (b := ((6 * n + 1 : Nat) : Int)) (ix_ok hn hL 1 (by decide)) ?_
  refine aw_scrld (i := 840) K hX hb (dOf ck_mL_law rfl rfl) (ix_in hn 1 (by decide)) ?_
  refine aw_sload_n (i := 841) K (dOf ck_mL_law rfl rfl) rfl ?_
  refine aw_iload_n (i := 842) K (dOf ck_mL_law rfl rfl) rfl ?_
  refine aw_iconst (i := 843) K (n := 2) (i32 _ rfl) (dOf ck_mL_law rfl rfl) ?_
  refine aw_iadd (i := 844) K (dOf ck_mL_law rfl rfl) ?_
  refine aw_eqi (b := ((6 * n + 2 : Nat) : Int)) (ix_ok hn hL 2 (by decide)) ?_
  refine aw_scrld (i := 845) K hX hb (dOf ck_mL_law rfl rfl) (ix_in hn 2 (by decide)) ?_
  refine aw_sload_n (i := 846) K (dOf ck_mL_law rfl rfl) rfl ?_
  refine aw_iload_n (i := 847) K (dOf ck_mL_law rfl rfl) rfl ?_
  refine aw_iconst (i := 848) K (n := 3) (i32 _ rfl) (dOf ck_mL_law rfl rfl) ?_
  refine aw_iadd (i := 849) K (dOf ck_mL_law rfl rfl) ?_
  refine aw_eqi (b := ((6 * n + 3 : Nat) : Int)) (ix_ok hn hL 3 (by decide)) ?_
  refine aw_scrld (i := 850) K hX hb (dOf ck_mL_law rfl rfl) (ix_in hn 3 (by decide)) ?_
  refine aw_callV (i := 851) (as := [.inl _, .inl _, .inl _]) (q := 0) K (dOf ck_mL_law rfl rfl) al_OneBreathLaw_175 rfl rfl ⟨wd_1158, wd_1159⟩ rfl (Nat.le_of_ble_eq_true rfl) ⟨Nat.le_of_ble_eq_true rfl, Nat.le_of_ble_eq_true rfl⟩ hr (Nat.le_refl _) (met_B_numbers h1) (fun bl1 => ?_)
  refine aw_aload_n (i := 852) K (dOf ck_mL_law rfl rfl) rfl ?_
  refine aw_sload_n (i := 853) K (dOf ck_mL_law rfl rfl) rfl ?_
  refine aw_iload_n (i := 854) K (dOf ck_mL_law rfl rfl) rfl ?_
  refine aw_iconst (i := 855) K (n := 1) (i32 _ rfl) (dOf ck_mL_law rfl rfl) ?_
  refine aw_iadd (i := 856) K (dOf ck_mL_law rfl rfl) ?_
  refine aw_eqi (b := ((6 * n + 1 : Nat) : Int)) (ix_ok hn hL 1 (by decide)) ?_
  refine aw_scrld (i := 857) K hX hb (dOf ck_mL_law rfl rfl) (ix_in hn 1 (by decide)) ?_
  refine aw_sload_n (i := 858) K (dOf ck_mL_law rfl rfl) rfl ?_
  refine aw_iload_n (i := 859) K (dOf ck_mL_law rfl rfl) rfl ?_
  refine aw_iconst (i := 860) K (n := 2) (i32 _ rfl) (dOf ck_mL_law rfl rfl) ?_
  refine aw_iadd (i := 861) K (dOf ck_mL_law rfl rfl) ?_
  refine aw_eqi (b := ((6 * n + 2 : Nat) : Int)) (ix_ok hn hL 2 (by decide)) ?_
  refine aw_scrld (i := 862) K hX hb (dOf ck_mL_law rfl rfl) (ix_in hn 2 (by decide)) ?_
  refine aw_sload_n (i := 863) K (dOf ck_mL_law rfl rfl) rfl ?_
  refine aw_iload_n (i := 864) K (dOf ck_mL_law rfl rfl) rfl ?_
  refine aw_iconst (i := 865) K (n := 3) (i32 _ rfl) (dOf ck_mL_law rfl rfl) ?_
  refine aw_iadd (i := 866) K (dOf ck_mL_law rfl rfl) ?_
  refine aw_eqi (b := ((6 * n + 3 : Nat) : Int)) (ix_ok hn hL 3 (by decide)) ?_
  refine aw_scrld (i := 867) K hX hb (dOf ck_mL_law rfl rfl) (ix_in hn 3 (by decide)) ?_
  refine aw_callV (i := 868) (as := [.inl _, .inl _, .inl _]) (q := 176) K (dOf ck_mL_law rfl rfl) al_OneBreathLaw_178 rfl rfl ⟨wd_1669, wd_1670⟩ rfl (Nat.le_of_ble_eq_true rfl) ⟨Nat.le_of_ble_eq_true rfl, Nat.le_of_ble_eq_true rfl⟩ hr (Nat.le_refl _) (met_R_numbers h2) (fun bl2 => ?_)
  refine aw_icmp_eq (i := 869) K (dOf ck_mL_law rfl rfl) (t := 1012) (aJ_of (by decide +kernel)) (fun _ => ?_) (fun z => absurd rfl z)
  have k9 := kk (bl1 ++ bl2)
  rw [← List.append_assoc] at k9
  exact k9
set_option maxHeartbeats 4000000 in
theorem lc_40 {nm : String} {p : Program} {l : Launch} {e : Env} {s : State} {m : MethodId} {args : Array Value} {below : List Frame} {meth : Method} {c : Code} {Q : State → Prop} {D : va_G} {cA : FieldType → ClassId} {ad adV : Nat → Nat} {z0 : Nat} {al : List Nat} {mm : aM} {nc ns : Nat} (K : aK p s m args meth c (mL_law nm) D cA ad adV z0) {n L : Nat} {xs : Nat → Int32} (hX : va_X (ad 21) L xs s s.heap) (hb : ad 21 < z0) (hn : 6 * n + 6 ≤ L) (hL : L ≤ 384) (hr : nc + 0 ≤ 600000 ∧ ns + 0 ≤ 7302250) {r : Int} {mm1 mm2 : aM} (h1 : B_write ((xs (6 * n + 1)).toInt) ((xs (6 * n + 2)).toInt) (lor (lshl ((xs (6 * n + 3)).toInt) 32) (land ((xs (6 * n + 4)).toInt) 4294967295)) mm = some (r, mm1)) (h2 : R_write ((xs (6 * n + 1)).toInt) ((xs (6 * n + 2)).toInt) (lor (lshl ((xs (6 * n + 3)).toInt) 32) (land ((xs (6 * n + 4)).toInt) 4294967295)) mm1 = some (r, mm2)) (kk : ∀ bl, AW p l e room_1 s m args below meth c Q D cA ad z0 (mL_law nm) (al ++ bl) 1012 (lawLv n) [] SH mm2 nc ns) : AW p l e room_1 s m args below meth c Q D cA ad z0 (mL_law nm) al 872 (lawLv n) [] SH mm nc ns := by
  unfold lawLv
  refine aw_aload_n (i := 872) K (dOf ck_mL_law rfl rfl) rfl ?_
  refine aw_sload_n (i := 873) K (dOf ck_mL_law rfl rfl) rfl ?_
  refine aw_iload_n (i := 874) K (dOf ck_mL_law rfl rfl) rfl ?_
  refine aw_iconst (i := 875) K (n := 1) (i32 _ rfl) (dOf ck_mL_law rfl rfl) ?_
  refine aw_iadd (i := 876) K (dOf ck_mL_law rfl rfl) ?_
  refine aw_eqi (b := ((6 * n + 1 : Nat) : Int)) (ix_ok hn hL 1 (by decide)) ?_
  refine aw_scrld (i := 877) K hX hb (dOf ck_mL_law rfl rfl) (ix_in hn 1 (by decide)) ?_
  refine aw_sload_n (i := 878) K (dOf ck_mL_law rfl rfl) rfl ?_
  refine aw_iload_n (i := 879) K (dOf ck_mL_law rfl rfl) rfl ?_
  refine aw_iconst (i := 880) K (n := 2) (i32 _ rfl) (dOf ck_mL_law rfl rfl) ?_
  refine aw_iadd (i := 881) K (dOf ck_mL_law rfl rfl) ?_
  refine aw_eqi (b := ((6 * n + 2 : Nat) : Int)) (ix_ok hn hL 2 (by decide)) ?_
  refine aw_scrld (i := 882) K hX hb (dOf ck_mL_law rfl rfl) (ix_in hn 2 (by decide)) ?_
  refine aw_sload_n (i := 883) K (dOf ck_mL_law rfl rfl) rfl ?_
  refine aw_iload_n (i := 884) K (dOf ck_mL_law rfl rfl) rfl ?_
  refine aw_iconst (i := 885) K (n := 3) (i32 _ rfl) (dOf ck_mL_law rfl rfl) ?_
  refine aw_iadd (i := 886) K (dOf ck_mL_law rfl rfl) ?_
  refine aw_eqi (b := ((6 * n + 3 : Nat) : Int)) (ix_ok hn hL 3 (by decide)) ?_
  refine aw_scrld (i := 887) K hX hb (dOf ck_mL_law rfl rfl) (ix_in hn 3 (by decide)) ?_
  refine aw_i2l (i := 888) K (dOf ck_mL_law rfl rfl) ?_
  refine aw_bip (i := 889) K (dOf ck_mL_law rfl rfl) (v := 32) rfl ?_
  refine aw_lshl (i := 890) K (dOf ck_mL_law rfl rfl) ?_
  refine aw_sload_n (i := 891) K (dOf ck_mL_law rfl rfl) rfl ?_
  refine aw_iload_n (i := 892) K (dOf ck_mL_law rfl rfl) rfl ?_
  refine aw_iconst (i := 893) K (n := 4) (i32 _ rfl) (dOf ck_mL_law rfl rfl) ?_
  refine aw_iadd (i := 894) K (dOf ck_mL_law rfl rfl) ?_
  refine aw_eqi (b := ((6 * n + 4 : Nat) : Int)) (ix_ok hn hL 4 (by decide)) ?_
  refine aw_scrld (i := 895) K hX hb (dOf ck_mL_law rfl rfl) (ix_in hn 4 (by decide)) ?_
  refine aw_i2l (i := 896) K (dOf ck_mL_law rfl rfl) ?_
  refine aw_ldc2 (i := 897) K (dOf ck_mL_law rfl rfl) (n := 4294967295) wd_1699 (i64 _ rfl) ?_
  refine aw_land (i := 898) K (dOf ck_mL_law rfl rfl) ?_
  refine aw_lor (i := 899) K (dOf ck_mL_law rfl rfl) ?_
  refine aw_callV (i := 900) (as := [.inl _, .inl _, .inr (.inl _)]) (q := 0) K (dOf ck_mL_law rfl rfl) al_OneBreathLaw_181 rfl rfl ⟨wd_1169, wd_1170⟩ rfl (Nat.le_of_ble_eq_true rfl) ⟨Nat.le_of_ble_eq_true rfl, Nat.le_of_ble_eq_true rfl⟩ hr (Nat.le_refl _) (met_B_write h1) (fun bl1 => ?_)
  refine aw_aload_n (i := 901) K (dOf ck_mL_law rfl rfl) rfl ?_
  refine aw_sload_n (i := 902) K (dOf ck_mL_law rfl rfl) rfl ?_
  refine aw_iload_n (i := 903) K (dOf ck_mL_law rfl rfl) rfl ?_
  refine aw_iconst (i := 904) K (n := 1) (i32 _ rfl) (dOf ck_mL_law rfl rfl) ?_
  refine aw_iadd (i := 905) K (dOf ck_mL_law rfl rfl) ?_
  refine aw_eqi (b := ((6 * n + 1 : Nat) : Int)) (ix_ok hn hL 1 (by decide)) ?_
  refine aw_scrld (i := 906) K hX hb (dOf ck_mL_law rfl rfl) (ix_in hn 1 (by decide)) ?_
  refine aw_sload_n (i := 907) K (dOf ck_mL_law rfl rfl) rfl ?_
  refine aw_iload_n (i := 908) K (dOf ck_mL_law rfl rfl) rfl ?_
  refine aw_iconst (i := 909) K (n := 2) (i32 _ rfl) (dOf ck_mL_law rfl rfl) ?_
  refine aw_iadd (i := 910) K (dOf ck_mL_law rfl rfl) ?_
  refine aw_eqi (b := ((6 * n + 2 : Nat) : Int)) (ix_ok hn hL 2 (by decide)) ?_
  refine aw_scrld (i := 911) K hX hb (dOf ck_mL_law rfl rfl) (ix_in hn 2 (by decide)) ?_
  refine aw_sload_n (i := 912) K (dOf ck_mL_law rfl rfl) rfl ?_
  refine aw_iload_n (i := 913) K (dOf ck_mL_law rfl rfl) rfl ?_
  refine aw_iconst (i := 914) K (n := 3) (i32 _ rfl) (dOf ck_mL_law rfl rfl) ?_
  refine aw_iadd (i := 915) K (dOf ck_mL_law rfl rfl) ?_
  refine aw_eqi (b := ((6 * n + 3 : Nat) : Int)) (ix_ok hn hL 3 (by decide)) ?_
  refine aw_scrld (i := 916) K hX hb (dOf ck_mL_law rfl rfl) (ix_in hn 3 (by decide)) ?_
  refine aw_i2l (i := 917) K (dOf ck_mL_law rfl rfl) ?_
  refine aw_bip (i := 918) K (dOf ck_mL_law rfl rfl) (v := 32) rfl ?_
  refine aw_lshl (i := 919) K (dOf ck_mL_law rfl rfl) ?_
  refine aw_sload_n (i := 920) K (dOf ck_mL_law rfl rfl) rfl ?_
  refine aw_iload_n (i := 921) K (dOf ck_mL_law rfl rfl) rfl ?_
  refine aw_iconst (i := 922) K (n := 4) (i32 _ rfl) (dOf ck_mL_law rfl rfl) ?_
  refine aw_iadd (i := 923) K (dOf ck_mL_law rfl rfl) ?_
  refine aw_eqi (b := ((6 * n + 4 : Nat) : Int)) (ix_ok hn hL 4 (by decide)) ?_
  refine aw_scrld (i := 924) K hX hb (dOf ck_mL_law rfl rfl) (ix_in hn 4 (by decide)) ?_
  refine aw_i2l (i := 925) K (dOf ck_mL_law rfl rfl) ?_
  refine aw_ldc2 (i := 926) K (dOf ck_mL_law rfl rfl) (n := 4294967295) wd_1699 (i64 _ rfl) ?_
  refine aw_land (i := 927) K (dOf ck_mL_law rfl rfl) ?_
  refine aw_lor (i := 928) K (dOf ck_mL_law rfl rfl) ?_
  refine aw_callV (i := 929) (as := [.inl _, .inl _, .inr (.inl _)]) (q := 176) K (dOf ck_mL_law rfl rfl) al_OneBreathLaw_185 rfl rfl ⟨wd_1674, wd_1675⟩ rfl (Nat.le_of_ble_eq_true rfl) ⟨Nat.le_of_ble_eq_true rfl, Nat.le_of_ble_eq_true rfl⟩ hr (Nat.le_refl _) (met_R_write h2) (fun bl2 => ?_)
  refine aw_lcmp (i := 930) K (dOf ck_mL_law rfl rfl) ?_
  refine aw_if_eq (i := 931) K (dOf ck_mL_law rfl rfl) (t := 1012) (aJ_of (by decide +kernel)) (fun _ => ?_) (fun z => absurd (by simp) z)
  have k9 := kk (bl1 ++ bl2)
  rw [← List.append_assoc] at k9
  exact k9
set_option maxHeartbeats 4000000 in
theorem lc_41 {nm : String} {p : Program} {l : Launch} {e : Env} {s : State} {m : MethodId} {args : Array Value} {below : List Frame} {meth : Method} {c : Code} {Q : State → Prop} {D : va_G} {cA : FieldType → ClassId} {ad adV : Nat → Nat} {z0 : Nat} {al : List Nat} {mm : aM} {nc ns : Nat} (K : aK p s m args meth c (mL_law nm) D cA ad adV z0) {n L : Nat} {xs : Nat → Int32} (hX : va_X (ad 21) L xs s s.heap) (hb : ad 21 < z0) (hn : 6 * n + 6 ≤ L) (hL : L ≤ 384) (hr : nc + 0 ≤ 600000 ∧ ns + 0 ≤ 7302250) {r : Int} {mm1 mm2 : aM} (h1 : B_copy ((xs (6 * n + 1)).toInt) ((xs (6 * n + 2)).toInt) mm = some (r, mm1)) (h2 : R_copy ((xs (6 * n + 1)).toInt) ((xs (6 * n + 2)).toInt) mm1 = some (r, mm2)) (kk : ∀ bl, AW p l e room_1 s m args below meth c Q D cA ad z0 (mL_law nm) (al ++ bl) 1012 (lawLv n) [] SH mm2 nc ns) : AW p l e room_1 s m args below meth c Q D cA ad z0 (mL_law nm) al 934 (lawLv n) [] SH mm nc ns := by
  unfold lawLv
  refine aw_aload_n (i := 934) K (dOf ck_mL_law rfl rfl) rfl ?_
  refine aw_sload_n (i := 935) K (dOf ck_mL_law rfl rfl) rfl ?_
  refine aw_iload_n (i := 936) K (dOf ck_mL_law rfl rfl) rfl ?_
  refine aw_iconst (i := 937) K (n := 1) (i32 _ rfl) (dOf ck_mL_law rfl rfl) ?_
  refine aw_iadd (i := 938) K (dOf ck_mL_law rfl rfl) ?_
  refine aw_eqi (b := ((6 * n + 1 : Nat) : Int)) (ix_ok hn hL 1 (by decide)) ?_
  refine aw_scrld (i := 939) K hX hb (dOf ck_mL_law rfl rfl) (ix_in hn 1 (by decide)) ?_
  refine aw_sload_n (i := 940) K (dOf ck_mL_law rfl rfl) rfl ?_
  refine aw_iload_n (i := 941) K (dOf ck_mL_law rfl rfl) rfl ?_
  refine aw_iconst (i := 942) K (n := 2) (i32 _ rfl) (dOf ck_mL_law rfl rfl) ?_
  refine aw_iadd (i := 943) K (dOf ck_mL_law rfl rfl) ?_
  refine aw_eqi (b := ((6 * n + 2 : Nat) : Int)) (ix_ok hn hL 2 (by decide)) ?_
  refine aw_scrld (i := 944) K hX hb (dOf ck_mL_law rfl rfl) (ix_in hn 2 (by decide)) ?_
  refine aw_callV (i := 945) (as := [.inl _, .inl _]) (q := 0) K (dOf ck_mL_law rfl rfl) al_OneBreathLaw_186 rfl rfl ⟨wd_1183, wd_1184⟩ rfl (Nat.le_of_ble_eq_true rfl) ⟨Nat.le_of_ble_eq_true rfl, Nat.le_of_ble_eq_true rfl⟩ hr (Nat.le_refl _) (met_B_copy h1) (fun bl1 => ?_)
  refine aw_aload_n (i := 946) K (dOf ck_mL_law rfl rfl) rfl ?_
  refine aw_sload_n (i := 947) K (dOf ck_mL_law rfl rfl) rfl ?_
  refine aw_iload_n (i := 948) K (dOf ck_mL_law rfl rfl) rfl ?_
  refine aw_iconst (i := 949) K (n := 1) (i32 _ rfl) (dOf ck_mL_law rfl rfl) ?_
  refine aw_iadd (i := 950) K (dOf ck_mL_law rfl rfl) ?_
  refine aw_eqi (b := ((6 * n + 1 : Nat) : Int)) (ix_ok hn hL 1 (by decide)) ?_
  refine aw_scrld (i := 951) K hX hb (dOf ck_mL_law rfl rfl) (ix_in hn 1 (by decide)) ?_
  refine aw_sload_n (i := 952) K (dOf ck_mL_law rfl rfl) rfl ?_
  refine aw_iload_n (i := 953) K (dOf ck_mL_law rfl rfl) rfl ?_
  refine aw_iconst (i := 954) K (n := 2) (i32 _ rfl) (dOf ck_mL_law rfl rfl) ?_
  refine aw_iadd (i := 955) K (dOf ck_mL_law rfl rfl) ?_
  refine aw_eqi (b := ((6 * n + 2 : Nat) : Int)) (ix_ok hn hL 2 (by decide)) ?_
  refine aw_scrld (i := 956) K hX hb (dOf ck_mL_law rfl rfl) (ix_in hn 2 (by decide)) ?_
  refine aw_callV (i := 957) (as := [.inl _, .inl _]) (q := 176) K (dOf ck_mL_law rfl rfl) al_OneBreathLaw_189 rfl rfl ⟨wd_1684, wd_1685⟩ rfl (Nat.le_of_ble_eq_true rfl) ⟨Nat.le_of_ble_eq_true rfl, Nat.le_of_ble_eq_true rfl⟩ hr (Nat.le_refl _) (met_R_copy h2) (fun bl2 => ?_)
  refine aw_icmp_eq (i := 958) K (dOf ck_mL_law rfl rfl) (t := 1012) (aJ_of (by decide +kernel)) (fun _ => ?_) (fun z => absurd rfl z)
  have k9 := kk (bl1 ++ bl2)
  rw [← List.append_assoc] at k9
  exact k9
set_option maxHeartbeats 4000000 in
theorem lc_42 {nm : String} {p : Program} {l : Launch} {e : Env} {s : State} {m : MethodId} {args : Array Value} {below : List Frame} {meth : Method} {c : Code} {Q : State → Prop} {D : va_G} {cA : FieldType → ClassId} {ad adV : Nat → Nat} {z0 : Nat} {al : List Nat} {mm : aM} {nc ns : Nat} (K : aK p s m args meth c (mL_law nm) D cA ad adV z0) {n L : Nat} {xs : Nat → Int32} (hX : va_X (ad 21) L xs s s.heap) (hb : ad 21 < z0) (hn : 6 * n + 6 ≤ L) (hL : L ≤ 384) (hr : nc + 0 ≤ 600000 ∧ ns + 0 ≤ 7302250) {r : Int} {mm1 mm2 : aM} (h1 : B_image ((xs (6 * n + 1)).toInt) mm = some (r, mm1)) (h2 : R_image ((xs (6 * n + 1)).toInt) mm1 = some (r, mm2)) (kk : ∀ bl, AW p l e room_1 s m args below meth c Q D cA ad z0 (mL_law nm) (al ++ bl) 1012 (lawLv n) [] SH mm2 nc ns) : AW p l e room_1 s m args below meth c Q D cA ad z0 (mL_law nm) al 961 (lawLv n) [] SH mm nc ns := by
  unfold lawLv
  refine aw_aload_n (i := 961) K (dOf ck_mL_law rfl rfl) rfl ?_
  refine aw_sload_n (i := 962) K (dOf ck_mL_law rfl rfl) rfl ?_
  refine aw_iload_n (i := 963) K (dOf ck_mL_law rfl rfl) rfl ?_
  refine aw_iconst (i := 964) K (n := 1) (i32 _ rfl) (dOf ck_mL_law rfl rfl) ?_
  refine aw_iadd (i := 965) K (dOf ck_mL_law rfl rfl) ?_
  refine aw_eqi (b := ((6 * n + 1 : Nat) : Int)) (ix_ok hn hL 1 (by decide)) ?_
  refine aw_scrld (i := 966) K hX hb (dOf ck_mL_law rfl rfl) (ix_in hn 1 (by decide)) ?_
  refine aw_callV (i := 967) (as := [.inl _]) (q := 0) K (dOf ck_mL_law rfl rfl) al_OneBreathLaw_190 rfl rfl ⟨wd_1187, wd_1188⟩ rfl (Nat.le_of_ble_eq_true rfl) ⟨Nat.le_of_ble_eq_true rfl, Nat.le_of_ble_eq_true rfl⟩ hr (Nat.le_refl _) (met_B_image h1) (fun bl1 => ?_)
  refine aw_aload_n (i := 968) K (dOf ck_mL_law rfl rfl) rfl ?_
  refine aw_sload_n (i := 969) K (dOf ck_mL_law rfl rfl) rfl ?_
  refine aw_iload_n (i := 970) K (dOf ck_mL_law rfl rfl) rfl ?_
  refine aw_iconst (i := 971) K (n := 1) (i32 _ rfl) (dOf ck_mL_law rfl rfl) ?_
  refine aw_iadd (i := 972) K (dOf ck_mL_law rfl rfl) ?_
  refine aw_eqi (b := ((6 * n + 1 : Nat) : Int)) (ix_ok hn hL 1 (by decide)) ?_
  refine aw_scrld (i := 973) K hX hb (dOf ck_mL_law rfl rfl) (ix_in hn 1 (by decide)) ?_
  refine aw_callV (i := 974) (as := [.inl _]) (q := 176) K (dOf ck_mL_law rfl rfl) al_OneBreathLaw_193 rfl rfl ⟨wd_1688, wd_1689⟩ rfl (Nat.le_of_ble_eq_true rfl) ⟨Nat.le_of_ble_eq_true rfl, Nat.le_of_ble_eq_true rfl⟩ hr (Nat.le_refl _) (met_R_image h2) (fun bl2 => ?_)
  refine aw_icmp_eq (i := 975) K (dOf ck_mL_law rfl rfl) (t := 1012) (aJ_of (by decide +kernel)) (fun _ => ?_) (fun z => absurd rfl z)
  have k9 := kk (bl1 ++ bl2)
  rw [← List.append_assoc] at k9
  exact k9
set_option maxHeartbeats 4000000 in
theorem lc_43 {nm : String} {p : Program} {l : Launch} {e : Env} {s : State} {m : MethodId} {args : Array Value} {below : List Frame} {meth : Method} {c : Code} {Q : State → Prop} {D : va_G} {cA : FieldType → ClassId} {ad adV : Nat → Nat} {z0 : Nat} {al : List Nat} {mm : aM} {nc ns : Nat} (K : aK p s m args meth c (mL_law nm) D cA ad adV z0) {n L : Nat} {xs : Nat → Int32} (hX : va_X (ad 21) L xs s s.heap) (hb : ad 21 < z0) (hn : 6 * n + 6 ≤ L) (hL : L ≤ 384) (hr : nc + 0 ≤ 600000 ∧ ns + 0 ≤ 7302250) {r : Int} {mm1 mm2 : aM} (h1 : B_restore ((xs (6 * n + 1)).toInt) mm = some (r, mm1)) (h2 : R_restore ((xs (6 * n + 1)).toInt) mm1 = some (r, mm2)) (kk : ∀ bl, AW p l e room_1 s m args below meth c Q D cA ad z0 (mL_law nm) (al ++ bl) 1012 (lawLv n) [] SH mm2 nc ns) : AW p l e room_1 s m args below meth c Q D cA ad z0 (mL_law nm) al 978 (lawLv n) [] SH mm nc ns := by
  unfold lawLv
  refine aw_aload_n (i := 978) K (dOf ck_mL_law rfl rfl) rfl ?_
  refine aw_sload_n (i := 979) K (dOf ck_mL_law rfl rfl) rfl ?_
  refine aw_iload_n (i := 980) K (dOf ck_mL_law rfl rfl) rfl ?_
  refine aw_iconst (i := 981) K (n := 1) (i32 _ rfl) (dOf ck_mL_law rfl rfl) ?_
  refine aw_iadd (i := 982) K (dOf ck_mL_law rfl rfl) ?_
  refine aw_eqi (b := ((6 * n + 1 : Nat) : Int)) (ix_ok hn hL 1 (by decide)) ?_
  refine aw_scrld (i := 983) K hX hb (dOf ck_mL_law rfl rfl) (ix_in hn 1 (by decide)) ?_
  refine aw_callV (i := 984) (as := [.inl _]) (q := 0) K (dOf ck_mL_law rfl rfl) al_OneBreathLaw_194 rfl rfl ⟨wd_1191, wd_1192⟩ rfl (Nat.le_of_ble_eq_true rfl) ⟨Nat.le_of_ble_eq_true rfl, Nat.le_of_ble_eq_true rfl⟩ hr (Nat.le_refl _) (met_B_restore h1) (fun bl1 => ?_)
  refine aw_aload_n (i := 985) K (dOf ck_mL_law rfl rfl) rfl ?_
  refine aw_sload_n (i := 986) K (dOf ck_mL_law rfl rfl) rfl ?_
  refine aw_iload_n (i := 987) K (dOf ck_mL_law rfl rfl) rfl ?_
  refine aw_iconst (i := 988) K (n := 1) (i32 _ rfl) (dOf ck_mL_law rfl rfl) ?_
  refine aw_iadd (i := 989) K (dOf ck_mL_law rfl rfl) ?_
  refine aw_eqi (b := ((6 * n + 1 : Nat) : Int)) (ix_ok hn hL 1 (by decide)) ?_
  refine aw_scrld (i := 990) K hX hb (dOf ck_mL_law rfl rfl) (ix_in hn 1 (by decide)) ?_
  refine aw_callV (i := 991) (as := [.inl _]) (q := 176) K (dOf ck_mL_law rfl rfl) al_OneBreathLaw_197 rfl rfl ⟨wd_1692, wd_1693⟩ rfl (Nat.le_of_ble_eq_true rfl) ⟨Nat.le_of_ble_eq_true rfl, Nat.le_of_ble_eq_true rfl⟩ hr (Nat.le_refl _) (met_R_restore h2) (fun bl2 => ?_)
  refine aw_icmp_eq (i := 992) K (dOf ck_mL_law rfl rfl) (t := 1012) (aJ_of (by decide +kernel)) (fun _ => ?_) (fun z => absurd rfl z)
  have k9 := kk (bl1 ++ bl2)
  rw [← List.append_assoc] at k9
  exact k9
set_option maxHeartbeats 4000000 in
theorem lc_44 {nm : String} {p : Program} {l : Launch} {e : Env} {s : State} {m : MethodId} {args : Array Value} {below : List Frame} {meth : Method} {c : Code} {Q : State → Prop} {D : va_G} {cA : FieldType → ClassId} {ad adV : Nat → Nat} {z0 : Nat} {al : List Nat} {mm : aM} {nc ns : Nat} (K : aK p s m args meth c (mL_law nm) D cA ad adV z0) {n L : Nat} {xs : Nat → Int32} (hX : va_X (ad 21) L xs s s.heap) (hb : ad 21 < z0) (hn : 6 * n + 6 ≤ L) (hL : L ≤ 384) (hr : nc + 0 ≤ 600000 ∧ ns + 0 ≤ 7302250) {r : Int} {mm2 : aM} (h1 : B_count ((xs (6 * n + 1)).toInt) mm = some r) (h2 : R_count ((xs (6 * n + 1)).toInt) mm = some (r, mm2)) (kk : ∀ bl, AW p l e room_1 s m args below meth c Q D cA ad z0 (mL_law nm) (al ++ bl) 1012 (lawLv n) [] SH mm2 nc ns) : AW p l e room_1 s m args below meth c Q D cA ad z0 (mL_law nm) al 995 (lawLv n) [] SH mm nc ns := by
  unfold lawLv
  refine aw_aload_n (i := 995) K (dOf ck_mL_law rfl rfl) rfl ?_
  refine aw_sload_n (i := 996) K (dOf ck_mL_law rfl rfl) rfl ?_
  refine aw_iload_n (i := 997) K (dOf ck_mL_law rfl rfl) rfl ?_
  refine aw_iconst (i := 998) K (n := 1) (i32 _ rfl) (dOf ck_mL_law rfl rfl) ?_
  refine aw_iadd (i := 999) K (dOf ck_mL_law rfl rfl) ?_
  refine aw_eqi (b := ((6 * n + 1 : Nat) : Int)) (ix_ok hn hL 1 (by decide)) ?_
  refine aw_scrld (i := 1000) K hX hb (dOf ck_mL_law rfl rfl) (ix_in hn 1 (by decide)) ?_
  refine aw_callV (i := 1001) (as := [.inl _]) (q := 0) K (dOf ck_mL_law rfl rfl) al_OneBreathLaw_198 rfl rfl ⟨wd_1195, wd_1196⟩ rfl (Nat.le_of_ble_eq_true rfl) ⟨Nat.le_of_ble_eq_true rfl, Nat.le_of_ble_eq_true rfl⟩ hr (Nat.le_refl _) (met_B_count h1) (fun bl1 => ?_)
  refine aw_aload_n (i := 1002) K (dOf ck_mL_law rfl rfl) rfl ?_
  refine aw_sload_n (i := 1003) K (dOf ck_mL_law rfl rfl) rfl ?_
  refine aw_iload_n (i := 1004) K (dOf ck_mL_law rfl rfl) rfl ?_
  refine aw_iconst (i := 1005) K (n := 1) (i32 _ rfl) (dOf ck_mL_law rfl rfl) ?_
  refine aw_iadd (i := 1006) K (dOf ck_mL_law rfl rfl) ?_
  refine aw_eqi (b := ((6 * n + 1 : Nat) : Int)) (ix_ok hn hL 1 (by decide)) ?_
  refine aw_scrld (i := 1007) K hX hb (dOf ck_mL_law rfl rfl) (ix_in hn 1 (by decide)) ?_
  refine aw_callV (i := 1008) (as := [.inl _]) (q := 176) K (dOf ck_mL_law rfl rfl) al_OneBreathLaw_201 rfl rfl ⟨wd_1696, wd_1697⟩ rfl (Nat.le_of_ble_eq_true rfl) ⟨Nat.le_of_ble_eq_true rfl, Nat.le_of_ble_eq_true rfl⟩ hr (Nat.le_refl _) (met_R_count h2) (fun bl2 => ?_)
  refine aw_icmp_eq (i := 1009) K (dOf ck_mL_law rfl rfl) (t := 1012) (aJ_of (by decide +kernel)) (fun _ => ?_) (fun z => absurd rfl z)
  have k9 := kk (bl1 ++ bl2)
  rw [← List.append_assoc] at k9
  exact k9
